theorem jt_bif {c : Bool} {X Y : Option jxR} {Q : List jxV → (Nat → Nat → Int) → (Nat → Nat → Int) → Prop} (hc : c = true) (h : jt X Q) : jt (bif c then X else Y) Q := by
  rw [hc]; exact h
theorem lw_op180 (E : jxE) (d : Nat) (hd : Nat.ble 60 (d + 1) = true) (hL : E.1 ≤ 3072) (y3 : Int) (hy0 : 0 ≤ y3) (hy1 : y3 + 6 ≤ E.1) (hnext : ∀ (a b : Nat → Nat → Int) (hv : iv a) (hg0 : WFW a) (hg1 : SV a) (hg2 : OC a) (hg3 : FO a) (hg4 : FW a) (hr0 : a 4 6 = a 146 2), jt (jxX E d 305 1189 [some (.inr (.inr (.inl 3000))), some (.inr (.inr (.inl 0))), some (.inr (.inr (.inl 146))), some (.inl y3)] [] (jxSH, a, b)) (fun v _ _ => v = [.inl 1])) (a b : Nat → Nat → Int) (hv : iv a) (hg0 : WFW a) (hg1 : SV a) (hg2 : OC a) (hg3 : FO a) (hg4 : FW a) (hr0 : a 4 6 = a 146 2) : jt (jxX E d 305 180 [some (.inr (.inr (.inl 3000))), some (.inr (.inr (.inl 0))), some (.inr (.inr (.inl 146))), some (.inl y3)] [] (jxSH, a, b)) (fun v _ _ => v = [.inl 1]) := by
  refine jt_eq (bq_law_180 E d y3 a b) ?_
  have h1_ := iv_get hv (k := 4) (j := 6) (l := 0) (u := 40) rfl
  have h2_ := iv_get hv (k := 146) (j := 2) (l := 0) (u := 40) rfl
  refine jt_bif (Nat.ble_eq_true_of_le (by omega)) ?_
  have h3_ : jxw (y3 + 1) = y3 + 1 := jxw_id (by omega) (by omega)
  refine jt_grd (by omega) ?_
  refine jt_bI (sp_X11_clock E d (jd_le hd rfl) (E.2 ((jxw (y3 + 1)).toNat)) a b hv) (fun r4_ a4_ b4_ h4_ => ?_)
  obtain ⟨hv4_, hf4_, rfl, hq4_0, hq4_1⟩ := h4_
  have h5_ := iv_get hv (k := 0) (j := 0) (l := 0) (u := 1999) rfl
  have h6_ := iv_get hv4_ (k := 0) (j := 0) (l := 0) (u := 1999) rfl
  refine jt_eq (bq_law_190 E d y3 a4_ b) ?_
  refine jt_bif (Nat.ble_eq_true_of_le (by omega)) ?_
  refine jt_grd (by omega) ?_
  refine jt_bI (sp_X12_clock E d (jd_le hd rfl) (E.2 ((jxw (y3 + 1)).toNat)) a4_ b hv4_) (fun r7_ a7_ b7_ h7_ => ?_)
  obtain ⟨hv7_, hf7_, rfl, hq7_0, hq7_1⟩ := h7_
  have h8_ := iv_get hv4_ (k := 146) (j := 0) (l := 0) (u := 1999) rfl
  have h9_ : a4_ 146 0 = a 146 0 := hf4_ 146 0 rfl
  have h10_ := iv_get hv (k := 146) (j := 0) (l := 0) (u := 1999) rfl
  have h11_ := iv_get hv7_ (k := 146) (j := 0) (l := 0) (u := 1999) rfl
  have h12_ := iv_get hv7_ (k := 4) (j := 6) (l := 0) (u := 40) rfl
  have h13_ : a7_ 4 6 = a4_ 4 6 := hf7_ 4 6 rfl
  have h14_ := iv_get hv4_ (k := 4) (j := 6) (l := 0) (u := 40) rfl
  have h15_ : a4_ 4 6 = a 4 6 := hf4_ 4 6 rfl
  have h16_ := iv_get hv7_ (k := 146) (j := 2) (l := 0) (u := 40) rfl
  have h17_ : a7_ 146 2 = a4_ 146 2 := hf7_ 146 2 rfl
  have h18_ := iv_get hv4_ (k := 146) (j := 2) (l := 0) (u := 40) rfl
  have h19_ : a4_ 146 2 = a 146 2 := hf4_ 146 2 rfl
  exact hnext a7_ b hv7_ (WFW_fr (WFW_fr hg0 hf4_ (fun _ => rfl) (fun _ => rfl)) hf7_ (fun _ => rfl) (fun _ => rfl)) (SV_fr (SV_fr hg1 hf4_ (fun _ => rfl) (fun _ => rfl)) hf7_ (fun _ => rfl) (fun _ => rfl)) (OC_fr (OC_fr hg2 hf4_ rfl rfl (fun _ => rfl) (fun _ => rfl) (fun _ => rfl) (fun _ => rfl) (fun _ => rfl)) hf7_ rfl rfl (fun _ => rfl) (fun _ => rfl) (fun _ => rfl) (fun _ => rfl) (fun _ => rfl)) (FO_fr (FO_fr hg3 hf4_ rfl rfl (fun _ => rfl)) hf7_ rfl rfl (fun _ => rfl)) (FW_fr (FW_fr hg4 hf4_ rfl (fun _ => rfl)) hf7_ rfl (fun _ => rfl)) (show a7_ 4 6 = a7_ 146 2 from by omega)
theorem lw_op203 (E : jxE) (d : Nat) (hd : Nat.ble 60 (d + 1) = true) (hL : E.1 ≤ 3072) (y3 : Int) (hy0 : 0 ≤ y3) (hy1 : y3 + 6 ≤ E.1) (hnext : ∀ (a b : Nat → Nat → Int) (hv : iv a) (hg0 : WFW a) (hg1 : SV a) (hg2 : OC a) (hg3 : FO a) (hg4 : FW a) (hr0 : a 4 6 = a 146 2), jt (jxX E d 305 1189 [some (.inr (.inr (.inl 3000))), some (.inr (.inr (.inl 0))), some (.inr (.inr (.inl 146))), some (.inl y3)] [] (jxSH, a, b)) (fun v _ _ => v = [.inl 1])) (a b : Nat → Nat → Int) (hv : iv a) (hg0 : WFW a) (hg1 : SV a) (hg2 : OC a) (hg3 : FO a) (hg4 : FW a) (hr0 : a 4 6 = a 146 2) : jt (jxX E d 305 203 [some (.inr (.inr (.inl 3000))), some (.inr (.inr (.inl 0))), some (.inr (.inr (.inl 146))), some (.inl y3)] [] (jxSH, a, b)) (fun v _ _ => v = [.inl 1]) := by
  refine jt_eq (bq_law_203 E d y3 a b) ?_
  have h20_ := iv_get hv (k := 4) (j := 6) (l := 0) (u := 40) rfl
  have h21_ := iv_get hv (k := 146) (j := 2) (l := 0) (u := 40) rfl
  refine jt_bif (Nat.ble_eq_true_of_le (by omega)) ?_
  have h22_ : jxw (y3 + 1) = y3 + 1 := jxw_id (by omega) (by omega)
  refine jt_grd (by omega) ?_
  refine jt_bif (Nat.ble_eq_true_of_le (by omega)) ?_
  have h23_ : jxw (y3 + 2) = y3 + 2 := jxw_id (by omega) (by omega)
  refine jt_grd (by omega) ?_
  refine jt_bif (Nat.ble_eq_true_of_le (by omega)) ?_
  have h24_ : jxw (y3 + 3) = y3 + 3 := jxw_id (by omega) (by omega)
  refine jt_grd (by omega) ?_
  refine jt_bI (sp_X11_far E d (jd_le hd rfl) (E.2 ((jxw (y3 + 1)).toNat)) (E.2 ((jxw (y3 + 2)).toNat)) (E.2 ((jxw (y3 + 3)).toNat)) a b hv) (fun r25_ a25_ b25_ h25_ => ?_)
  obtain ⟨hv25_, hf25_, rfl, hq25_0⟩ := h25_
  refine jt_eq (bq_law_223 E d y3 a25_ b) ?_
  refine jt_bif (Nat.ble_eq_true_of_le (by omega)) ?_
  refine jt_grd (by omega) ?_
  refine jt_bif (Nat.ble_eq_true_of_le (by omega)) ?_
  refine jt_grd (by omega) ?_
  refine jt_bif (Nat.ble_eq_true_of_le (by omega)) ?_
  refine jt_grd (by omega) ?_
  refine jt_bI (sp_X12_far E d (jd_le hd rfl) (E.2 ((jxw (y3 + 1)).toNat)) (E.2 ((jxw (y3 + 2)).toNat)) (E.2 ((jxw (y3 + 3)).toNat)) a25_ b hv25_) (fun r26_ a26_ b26_ h26_ => ?_)
  obtain ⟨hv26_, hf26_, rfl, hq26_0⟩ := h26_
  refine jt_eq (bq_law_243 E d y3 a26_ b) ?_
  have h27_ := iv_get hv26_ (k := 4) (j := 6) (l := 0) (u := 40) rfl
  have h28_ : a26_ 4 6 = a25_ 4 6 := hf26_ 4 6 rfl
  have h29_ := iv_get hv25_ (k := 4) (j := 6) (l := 0) (u := 40) rfl
  have h30_ : a25_ 4 6 = a 4 6 := hf25_ 4 6 rfl
  have h31_ := iv_get hv26_ (k := 146) (j := 2) (l := 0) (u := 40) rfl
  have h32_ : a26_ 146 2 = a25_ 146 2 := hf26_ 146 2 rfl
  have h33_ := iv_get hv25_ (k := 146) (j := 2) (l := 0) (u := 40) rfl
  have h34_ : a25_ 146 2 = a 146 2 := hf25_ 146 2 rfl
  exact hnext a26_ b hv26_ (WFW_fr (WFW_fr hg0 hf25_ (fun _ => rfl) (fun _ => rfl)) hf26_ (fun _ => rfl) (fun _ => rfl)) (SV_fr (SV_fr hg1 hf25_ (fun _ => rfl) (fun _ => rfl)) hf26_ (fun _ => rfl) (fun _ => rfl)) (OC_fr (OC_fr hg2 hf25_ rfl rfl (fun _ => rfl) (fun _ => rfl) (fun _ => rfl) (fun _ => rfl) (fun _ => rfl)) hf26_ rfl rfl (fun _ => rfl) (fun _ => rfl) (fun _ => rfl) (fun _ => rfl) (fun _ => rfl)) (FO_fr (FO_fr hg3 hf25_ rfl rfl (fun _ => rfl)) hf26_ rfl rfl (fun _ => rfl)) (FW_fr (FW_fr hg4 hf25_ rfl (fun _ => rfl)) hf26_ rfl (fun _ => rfl)) (show a26_ 4 6 = a26_ 146 2 from by omega)
theorem lw_op246 (E : jxE) (d : Nat) (hd : Nat.ble 60 (d + 1) = true) (hL : E.1 ≤ 3072) (y3 : Int) (hy0 : 0 ≤ y3) (hy1 : y3 + 6 ≤ E.1) (hnext : ∀ (a b : Nat → Nat → Int) (hv : iv a) (hg0 : WFW a) (hg1 : SV a) (hg2 : OC a) (hg3 : FO a) (hg4 : FW a) (hr0 : a 4 6 = a 146 2), jt (jxX E d 305 1189 [some (.inr (.inr (.inl 3000))), some (.inr (.inr (.inl 0))), some (.inr (.inr (.inl 146))), some (.inl y3)] [] (jxSH, a, b)) (fun v _ _ => v = [.inl 1])) (a b : Nat → Nat → Int) (hv : iv a) (hg0 : WFW a) (hg1 : SV a) (hg2 : OC a) (hg3 : FO a) (hg4 : FW a) (hr0 : a 4 6 = a 146 2) : jt (jxX E d 305 246 [some (.inr (.inr (.inl 3000))), some (.inr (.inr (.inl 0))), some (.inr (.inr (.inl 146))), some (.inl y3)] [] (jxSH, a, b)) (fun v _ _ => v = [.inl 1]) := by
  refine jt_eq (bq_law_246 E d y3 a b) ?_
  have h35_ := iv_get hv (k := 4) (j := 6) (l := 0) (u := 40) rfl
  have h36_ := iv_get hv (k := 146) (j := 2) (l := 0) (u := 40) rfl
  refine jt_bif (Nat.ble_eq_true_of_le (by omega)) ?_
  have h37_ : jxw (y3 + 1) = y3 + 1 := jxw_id (by omega) (by omega)
  refine jt_grd (by omega) ?_
  refine jt_bif (Nat.ble_eq_true_of_le (by omega)) ?_
  have h38_ : jxw (y3 + 2) = y3 + 2 := jxw_id (by omega) (by omega)
  refine jt_grd (by omega) ?_
  refine jt_bif (Nat.ble_eq_true_of_le (by omega)) ?_
  have h39_ : jxw (y3 + 3) = y3 + 3 := jxw_id (by omega) (by omega)
  refine jt_grd (by omega) ?_
  refine jt_bI (sp_X11_member E d (jd_le hd rfl) (E.2 ((jxw (y3 + 1)).toNat)) (E.2 ((jxw (y3 + 2)).toNat)) (E.2 ((jxw (y3 + 3)).toNat)) a b hv) (fun r40_ a40_ b40_ h40_ => ?_)
  obtain ⟨hv40_, hf40_, rfl, hq40_0⟩ := h40_
  have h41_ := iv_get hv40_ (k := 4) (j := 6) (l := 0) (u := 40) rfl
  refine jt_bif (Nat.ble_eq_true_of_le (by omega)) ?_
  refine jt_grd (by omega) ?_
  refine jt_bif (Nat.ble_eq_true_of_le (by omega)) ?_
  refine jt_grd (by omega) ?_
  refine jt_bif (Nat.ble_eq_true_of_le (by omega)) ?_
  refine jt_grd (by omega) ?_
  refine jt_bI (sp_X12_member E d (jd_le hd rfl) (E.2 ((jxw (y3 + 1)).toNat)) (E.2 ((jxw (y3 + 2)).toNat)) (E.2 ((jxw (y3 + 3)).toNat)) a40_ b hv40_) (fun r42_ a42_ b42_ h42_ => ?_)
  obtain ⟨hv42_, hf42_, rfl, hq42_0⟩ := h42_
  have h43_ := iv_get hv40_ (k := 146) (j := 2) (l := 0) (u := 40) rfl
  have h44_ : a40_ 146 2 = a 146 2 := hf40_ 146 2 rfl
  have h45_ := iv_get hv42_ (k := 146) (j := 2) (l := 0) (u := 40) rfl
  refine jt_ite (fun c46_ => ?_) (fun c46_ => ?_)
  ·
    have h47_ := iv_get hv42_ (k := 4) (j := 6) (l := 0) (u := 40) rfl
    have h48_ : a42_ 4 6 = a40_ 4 6 := hf42_ 4 6 rfl
    exact hnext a42_ b hv42_ (WFW_fr (WFW_fr hg0 hf40_ (fun _ => rfl) (fun _ => rfl)) hf42_ (fun _ => rfl) (fun _ => rfl)) (SV_fr (SV_fr hg1 hf40_ (fun _ => rfl) (fun _ => rfl)) hf42_ (fun _ => rfl) (fun _ => rfl)) (OC_fr (OC_fr hg2 hf40_ rfl rfl (fun _ => rfl) (fun _ => rfl) (fun _ => rfl) (fun _ => rfl) (fun _ => rfl)) hf42_ rfl rfl (fun _ => rfl) (fun _ => rfl) (fun _ => rfl) (fun _ => rfl) (fun _ => rfl)) (FO_fr (FO_fr hg3 hf40_ rfl rfl (fun _ => rfl)) hf42_ rfl rfl (fun _ => rfl)) (FW_fr (FW_fr hg4 hf40_ rfl (fun _ => rfl)) hf42_ rfl (fun _ => rfl)) (show a42_ 4 6 = a42_ 146 2 from by omega)
  ·
    exact absurd (by omega : False) id
theorem lw_op289 (E : jxE) (d : Nat) (hd : Nat.ble 60 (d + 1) = true) (hL : E.1 ≤ 3072) (y3 : Int) (hy0 : 0 ≤ y3) (hy1 : y3 + 6 ≤ E.1) (hnext : ∀ (a b : Nat → Nat → Int) (hv : iv a) (hg0 : WFW a) (hg1 : SV a) (hg2 : OC a) (hg3 : FO a) (hg4 : FW a) (hr0 : a 4 6 = a 146 2), jt (jxX E d 305 1189 [some (.inr (.inr (.inl 3000))), some (.inr (.inr (.inl 0))), some (.inr (.inr (.inl 146))), some (.inl y3)] [] (jxSH, a, b)) (fun v _ _ => v = [.inl 1])) (a b : Nat → Nat → Int) (hv : iv a) (hg0 : WFW a) (hg1 : SV a) (hg2 : OC a) (hg3 : FO a) (hg4 : FW a) (hr0 : a 4 6 = a 146 2) : jt (jxX E d 305 289 [some (.inr (.inr (.inl 3000))), some (.inr (.inr (.inl 0))), some (.inr (.inr (.inl 146))), some (.inl y3)] [] (jxSH, a, b)) (fun v _ _ => v = [.inl 1]) := by
  refine jt_eq (bq_law_289 E d y3 a b) ?_
  have h49_ := iv_get hv (k := 4) (j := 6) (l := 0) (u := 40) rfl
  have h50_ := iv_get hv (k := 146) (j := 2) (l := 0) (u := 40) rfl
  refine jt_bif (Nat.ble_eq_true_of_le (by omega)) ?_
  have h51_ : jxw (y3 + 1) = y3 + 1 := jxw_id (by omega) (by omega)
  refine jt_grd (by omega) ?_
  refine jt_bI (sp_X11_leave E d (jd_le hd rfl) (E.2 ((jxw (y3 + 1)).toNat)) a b hv) (fun r52_ a52_ b52_ h52_ => ?_)
  obtain ⟨hv52_, hf52_, rfl⟩ := h52_
  refine jt_eq (bq_law_299 E d y3 a52_ b) ?_
  refine jt_bif (Nat.ble_eq_true_of_le (by omega)) ?_
  refine jt_grd (by omega) ?_
  refine jt_bI (sp_X12_leave E d (jd_le hd rfl) (E.2 ((jxw (y3 + 1)).toNat)) a52_ b hv52_ (OC_fr hg2 hf52_ rfl rfl (fun _ => rfl) (fun _ => rfl) (fun _ => rfl) (fun _ => rfl) (fun _ => rfl))) (fun r53_ a53_ b53_ h53_ => ?_)
  obtain ⟨hv53_, hf53_, rfl, hq53_0⟩ := h53_
  have h54_ := iv_get hv53_ (k := 4) (j := 6) (l := 0) (u := 40) rfl
  have h55_ : a53_ 4 6 = a52_ 4 6 := hf53_ 4 6 rfl
  have h56_ := iv_get hv52_ (k := 4) (j := 6) (l := 0) (u := 40) rfl
  have h57_ : a52_ 4 6 = a 4 6 := hf52_ 4 6 rfl
  have h58_ := iv_get hv53_ (k := 146) (j := 2) (l := 0) (u := 40) rfl
  have h59_ : a53_ 146 2 = a52_ 146 2 := hf53_ 146 2 rfl
  have h60_ := iv_get hv52_ (k := 146) (j := 2) (l := 0) (u := 40) rfl
  have h61_ : a52_ 146 2 = a 146 2 := hf52_ 146 2 rfl
  exact hnext a53_ b hv53_ (WFW_fr (WFW_fr hg0 hf52_ (fun _ => rfl) (fun _ => rfl)) hf53_ (fun _ => rfl) (fun _ => rfl)) (SV_fr (SV_fr hg1 hf52_ (fun _ => rfl) (fun _ => rfl)) hf53_ (fun _ => rfl) (fun _ => rfl)) hq53_0 (FO_fr (FO_fr hg3 hf52_ rfl rfl (fun _ => rfl)) hf53_ rfl rfl (fun _ => rfl)) (FW_fr (FW_fr hg4 hf52_ rfl (fun _ => rfl)) hf53_ rfl (fun _ => rfl)) (show a53_ 4 6 = a53_ 146 2 from by omega)
theorem lw_op312 (E : jxE) (d : Nat) (hd : Nat.ble 60 (d + 1) = true) (hL : E.1 ≤ 3072) (y3 : Int) (hy0 : 0 ≤ y3) (hy1 : y3 + 6 ≤ E.1) (hnext : ∀ (a b : Nat → Nat → Int) (hv : iv a) (hg0 : WFW a) (hg1 : SV a) (hg2 : OC a) (hg3 : FO a) (hg4 : FW a) (hr0 : a 4 6 = a 146 2), jt (jxX E d 305 1189 [some (.inr (.inr (.inl 3000))), some (.inr (.inr (.inl 0))), some (.inr (.inr (.inl 146))), some (.inl y3)] [] (jxSH, a, b)) (fun v _ _ => v = [.inl 1])) (a b : Nat → Nat → Int) (hv : iv a) (hg0 : WFW a) (hg1 : SV a) (hg2 : OC a) (hg3 : FO a) (hg4 : FW a) (hr0 : a 4 6 = a 146 2) : jt (jxX E d 305 312 [some (.inr (.inr (.inl 3000))), some (.inr (.inr (.inl 0))), some (.inr (.inr (.inl 146))), some (.inl y3)] [] (jxSH, a, b)) (fun v _ _ => v = [.inl 1]) := by
  refine jt_eq (bq_law_312 E d y3 a b) ?_
  have h62_ := iv_get hv (k := 4) (j := 6) (l := 0) (u := 40) rfl
  have h63_ := iv_get hv (k := 146) (j := 2) (l := 0) (u := 40) rfl
  refine jt_bif (Nat.ble_eq_true_of_le (by omega)) ?_
  have h64_ : jxw (y3 + 1) = y3 + 1 := jxw_id (by omega) (by omega)
  refine jt_grd (by omega) ?_
  refine jt_bif (Nat.ble_eq_true_of_le (by omega)) ?_
  have h65_ : jxw (y3 + 2) = y3 + 2 := jxw_id (by omega) (by omega)
  refine jt_grd (by omega) ?_
  refine jt_bif (Nat.ble_eq_true_of_le (by omega)) ?_
  have h66_ : jxw (y3 + 3) = y3 + 3 := jxw_id (by omega) (by omega)
  refine jt_grd (by omega) ?_
  refine jt_bif (Nat.ble_eq_true_of_le (by omega)) ?_
  have h67_ : jxw (y3 + 4) = y3 + 4 := jxw_id (by omega) (by omega)
  refine jt_grd (by omega) ?_
  refine jt_bif (Nat.ble_eq_true_of_le (by omega)) ?_
  have h68_ : jxw (y3 + 5) = y3 + 5 := jxw_id (by omega) (by omega)
  refine jt_grd (by omega) ?_
  refine jt_bI (sp_X11_feed E d (jd_le hd rfl) (E.2 ((jxw (y3 + 1)).toNat)) (E.2 ((jxw (y3 + 2)).toNat)) (E.2 ((jxw (y3 + 3)).toNat)) (E.2 ((jxw (y3 + 4)).toNat)) (E.2 ((jxw (y3 + 5)).toNat)) a b hv) (fun r69_ a69_ b69_ h69_ => ?_)
  obtain ⟨hv69_, hf69_, rfl⟩ := h69_
  refine jt_eq (bq_law_342 E d y3 a69_ b) ?_
  refine jt_bif (Nat.ble_eq_true_of_le (by omega)) ?_
  refine jt_grd (by omega) ?_
  refine jt_bif (Nat.ble_eq_true_of_le (by omega)) ?_
  refine jt_grd (by omega) ?_
  refine jt_bif (Nat.ble_eq_true_of_le (by omega)) ?_
  refine jt_grd (by omega) ?_
  refine jt_bif (Nat.ble_eq_true_of_le (by omega)) ?_
  refine jt_grd (by omega) ?_
  refine jt_bif (Nat.ble_eq_true_of_le (by omega)) ?_
  refine jt_grd (by omega) ?_
  refine jt_bI (sp_X12_feed E d (jd_le hd rfl) (E.2 ((jxw (y3 + 1)).toNat)) (E.2 ((jxw (y3 + 2)).toNat)) (E.2 ((jxw (y3 + 3)).toNat)) (E.2 ((jxw (y3 + 4)).toNat)) (E.2 ((jxw (y3 + 5)).toNat)) a69_ b hv69_) (fun r70_ a70_ b70_ h70_ => ?_)
  obtain ⟨hv70_, hf70_, rfl⟩ := h70_
  refine jt_eq (bq_law_372 E d y3 a70_ b) ?_
  have h71_ := iv_get hv70_ (k := 4) (j := 6) (l := 0) (u := 40) rfl
  have h72_ : a70_ 4 6 = a69_ 4 6 := hf70_ 4 6 rfl
  have h73_ := iv_get hv69_ (k := 4) (j := 6) (l := 0) (u := 40) rfl
  have h74_ : a69_ 4 6 = a 4 6 := hf69_ 4 6 rfl
  have h75_ := iv_get hv70_ (k := 146) (j := 2) (l := 0) (u := 40) rfl
  have h76_ : a70_ 146 2 = a69_ 146 2 := hf70_ 146 2 rfl
  have h77_ := iv_get hv69_ (k := 146) (j := 2) (l := 0) (u := 40) rfl
  have h78_ : a69_ 146 2 = a 146 2 := hf69_ 146 2 rfl
  exact hnext a70_ b hv70_ (WFW_fr (WFW_fr hg0 hf69_ (fun _ => rfl) (fun _ => rfl)) hf70_ (fun _ => rfl) (fun _ => rfl)) (SV_fr (SV_fr hg1 hf69_ (fun _ => rfl) (fun _ => rfl)) hf70_ (fun _ => rfl) (fun _ => rfl)) (OC_fr (OC_fr hg2 hf69_ rfl rfl (fun _ => rfl) (fun _ => rfl) (fun _ => rfl) (fun _ => rfl) (fun _ => rfl)) hf70_ rfl rfl (fun _ => rfl) (fun _ => rfl) (fun _ => rfl) (fun _ => rfl) (fun _ => rfl)) (FO_fr (FO_fr hg3 hf69_ rfl rfl (fun _ => rfl)) hf70_ rfl rfl (fun _ => rfl)) (FW_fr (FW_fr hg4 hf69_ rfl (fun _ => rfl)) hf70_ rfl (fun _ => rfl)) (show a70_ 4 6 = a70_ 146 2 from by omega)
theorem lw_op375 (E : jxE) (d : Nat) (hd : Nat.ble 60 (d + 1) = true) (hL : E.1 ≤ 3072) (y3 : Int) (hy0 : 0 ≤ y3) (hy1 : y3 + 6 ≤ E.1) (hnext : ∀ (a b : Nat → Nat → Int) (hv : iv a) (hg0 : WFW a) (hg1 : SV a) (hg2 : OC a) (hg3 : FO a) (hg4 : FW a) (hr0 : a 4 6 = a 146 2), jt (jxX E d 305 1189 [some (.inr (.inr (.inl 3000))), some (.inr (.inr (.inl 0))), some (.inr (.inr (.inl 146))), some (.inl y3)] [] (jxSH, a, b)) (fun v _ _ => v = [.inl 1])) (a b : Nat → Nat → Int) (hv : iv a) (hg0 : WFW a) (hg1 : SV a) (hg2 : OC a) (hg3 : FO a) (hg4 : FW a) (hr0 : a 4 6 = a 146 2) : jt (jxX E d 305 375 [some (.inr (.inr (.inl 3000))), some (.inr (.inr (.inl 0))), some (.inr (.inr (.inl 146))), some (.inl y3)] [] (jxSH, a, b)) (fun v _ _ => v = [.inl 1]) := by
  refine jt_eq (bq_law_375 E d y3 a b) ?_
  have h79_ := iv_get hv (k := 4) (j := 6) (l := 0) (u := 40) rfl
  have h80_ := iv_get hv (k := 146) (j := 2) (l := 0) (u := 40) rfl
  refine jt_bif (Nat.ble_eq_true_of_le (by omega)) ?_
  have h81_ : jxw (y3 + 1) = y3 + 1 := jxw_id (by omega) (by omega)
  refine jt_grd (by omega) ?_
  refine jt_bI (sp_X11_end E d (jd_le hd rfl) (E.2 ((jxw (y3 + 1)).toNat)) a b hv) (fun r82_ a82_ b82_ h82_ => ?_)
  obtain ⟨hv82_, hf82_, rfl⟩ := h82_
  refine jt_eq (bq_law_385 E d y3 a82_ b) ?_
  refine jt_bif (Nat.ble_eq_true_of_le (by omega)) ?_
  refine jt_grd (by omega) ?_
  refine jt_bI (sp_X12_end E d (jd_le hd rfl) (E.2 ((jxw (y3 + 1)).toNat)) a82_ b hv82_) (fun r83_ a83_ b83_ h83_ => ?_)
  obtain ⟨hv83_, hf83_, rfl⟩ := h83_
  have h84_ := iv_get hv83_ (k := 4) (j := 6) (l := 0) (u := 40) rfl
  have h85_ : a83_ 4 6 = a82_ 4 6 := hf83_ 4 6 rfl
  have h86_ := iv_get hv82_ (k := 4) (j := 6) (l := 0) (u := 40) rfl
  have h87_ : a82_ 4 6 = a 4 6 := hf82_ 4 6 rfl
  have h88_ := iv_get hv83_ (k := 146) (j := 2) (l := 0) (u := 40) rfl
  have h89_ : a83_ 146 2 = a82_ 146 2 := hf83_ 146 2 rfl
  have h90_ := iv_get hv82_ (k := 146) (j := 2) (l := 0) (u := 40) rfl
  have h91_ : a82_ 146 2 = a 146 2 := hf82_ 146 2 rfl
  exact hnext a83_ b hv83_ (WFW_fr (WFW_fr hg0 hf82_ (fun _ => rfl) (fun _ => rfl)) hf83_ (fun _ => rfl) (fun _ => rfl)) (SV_fr (SV_fr hg1 hf82_ (fun _ => rfl) (fun _ => rfl)) hf83_ (fun _ => rfl) (fun _ => rfl)) (OC_fr (OC_fr hg2 hf82_ rfl rfl (fun _ => rfl) (fun _ => rfl) (fun _ => rfl) (fun _ => rfl) (fun _ => rfl)) hf83_ rfl rfl (fun _ => rfl) (fun _ => rfl) (fun _ => rfl) (fun _ => rfl) (fun _ => rfl)) (FO_fr (FO_fr hg3 hf82_ rfl rfl (fun _ => rfl)) hf83_ rfl rfl (fun _ => rfl)) (FW_fr (FW_fr hg4 hf82_ rfl (fun _ => rfl)) hf83_ rfl (fun _ => rfl)) (show a83_ 4 6 = a83_ 146 2 from by omega)
theorem lw_op398 (E : jxE) (d : Nat) (hd : Nat.ble 60 (d + 1) = true) (hL : E.1 ≤ 3072) (y3 : Int) (hy0 : 0 ≤ y3) (hy1 : y3 + 6 ≤ E.1) (hnext : ∀ (a b : Nat → Nat → Int) (hv : iv a) (hg0 : WFW a) (hg1 : SV a) (hg2 : OC a) (hg3 : FO a) (hg4 : FW a) (hr0 : a 4 6 = a 146 2), jt (jxX E d 305 1189 [some (.inr (.inr (.inl 3000))), some (.inr (.inr (.inl 0))), some (.inr (.inr (.inl 146))), some (.inl y3)] [] (jxSH, a, b)) (fun v _ _ => v = [.inl 1])) (a b : Nat → Nat → Int) (hv : iv a) (hg0 : WFW a) (hg1 : SV a) (hg2 : OC a) (hg3 : FO a) (hg4 : FW a) (hr0 : a 4 6 = a 146 2) : jt (jxX E d 305 398 [some (.inr (.inr (.inl 3000))), some (.inr (.inr (.inl 0))), some (.inr (.inr (.inl 146))), some (.inl y3)] [] (jxSH, a, b)) (fun v _ _ => v = [.inl 1]) := by
  refine jt_eq (bq_law_398 E d y3 a b) ?_
  have h92_ := iv_get hv (k := 4) (j := 6) (l := 0) (u := 40) rfl
  have h93_ := iv_get hv (k := 146) (j := 2) (l := 0) (u := 40) rfl
  refine jt_bif (Nat.ble_eq_true_of_le (by omega)) ?_
  have h94_ : jxw (y3 + 1) = y3 + 1 := jxw_id (by omega) (by omega)
  refine jt_grd (by omega) ?_
  refine jt_bI (sp_X11_wish E d (jd_le hd rfl) (E.2 ((jxw (y3 + 1)).toNat)) a b hv) (fun r95_ a95_ b95_ h95_ => ?_)
  obtain ⟨hv95_, hf95_, rfl⟩ := h95_
  refine jt_eq (bq_law_408 E d y3 a95_ b) ?_
  refine jt_bif (Nat.ble_eq_true_of_le (by omega)) ?_
  refine jt_grd (by omega) ?_
  refine jt_bI (sp_X12_wish E d (jd_le hd rfl) (E.2 ((jxw (y3 + 1)).toNat)) a95_ b hv95_ (WFW_fr hg0 hf95_ (fun _ => rfl) (fun _ => rfl))) (fun r96_ a96_ b96_ h96_ => ?_)
  obtain ⟨hv96_, hf96_, rfl, hq96_0⟩ := h96_
  have h97_ := iv_get hv96_ (k := 4) (j := 6) (l := 0) (u := 40) rfl
  have h98_ : a96_ 4 6 = a95_ 4 6 := hf96_ 4 6 rfl
  have h99_ := iv_get hv95_ (k := 4) (j := 6) (l := 0) (u := 40) rfl
  have h100_ : a95_ 4 6 = a 4 6 := hf95_ 4 6 rfl
  have h101_ := iv_get hv96_ (k := 146) (j := 2) (l := 0) (u := 40) rfl
  have h102_ : a96_ 146 2 = a95_ 146 2 := hf96_ 146 2 rfl
  have h103_ := iv_get hv95_ (k := 146) (j := 2) (l := 0) (u := 40) rfl
  have h104_ : a95_ 146 2 = a 146 2 := hf95_ 146 2 rfl
  exact hnext a96_ b hv96_ hq96_0 (SV_fr (SV_fr hg1 hf95_ (fun _ => rfl) (fun _ => rfl)) hf96_ (fun _ => rfl) (fun _ => rfl)) (OC_fr (OC_fr hg2 hf95_ rfl rfl (fun _ => rfl) (fun _ => rfl) (fun _ => rfl) (fun _ => rfl) (fun _ => rfl)) hf96_ rfl rfl (fun _ => rfl) (fun _ => rfl) (fun _ => rfl) (fun _ => rfl) (fun _ => rfl)) (FO_fr (FO_fr hg3 hf95_ rfl rfl (fun _ => rfl)) hf96_ rfl rfl (fun _ => rfl)) (FW_fr (FW_fr hg4 hf95_ rfl (fun _ => rfl)) hf96_ rfl (fun _ => rfl)) (show a96_ 4 6 = a96_ 146 2 from by omega)
theorem lw_op421 (E : jxE) (d : Nat) (hd : Nat.ble 60 (d + 1) = true) (hL : E.1 ≤ 3072) (y3 : Int) (hy0 : 0 ≤ y3) (hy1 : y3 + 6 ≤ E.1) (hnext : ∀ (a b : Nat → Nat → Int) (hv : iv a) (hg0 : WFW a) (hg1 : SV a) (hg2 : OC a) (hg3 : FO a) (hg4 : FW a) (hr0 : a 4 6 = a 146 2), jt (jxX E d 305 1189 [some (.inr (.inr (.inl 3000))), some (.inr (.inr (.inl 0))), some (.inr (.inr (.inl 146))), some (.inl y3)] [] (jxSH, a, b)) (fun v _ _ => v = [.inl 1])) (a b : Nat → Nat → Int) (hv : iv a) (hg0 : WFW a) (hg1 : SV a) (hg2 : OC a) (hg3 : FO a) (hg4 : FW a) (hr0 : a 4 6 = a 146 2) : jt (jxX E d 305 421 [some (.inr (.inr (.inl 3000))), some (.inr (.inr (.inl 0))), some (.inr (.inr (.inl 146))), some (.inl y3)] [] (jxSH, a, b)) (fun v _ _ => v = [.inl 1]) := by
  refine jt_eq (bq_law_421 E d y3 a b) ?_
  have h105_ := iv_get hv (k := 4) (j := 6) (l := 0) (u := 40) rfl
  have h106_ := iv_get hv (k := 146) (j := 2) (l := 0) (u := 40) rfl
  refine jt_bif (Nat.ble_eq_true_of_le (by omega)) ?_
  have h107_ : jxw (y3 + 1) = y3 + 1 := jxw_id (by omega) (by omega)
  refine jt_grd (by omega) ?_
  refine jt_bif (Nat.ble_eq_true_of_le (by omega)) ?_
  have h108_ : jxw (y3 + 2) = y3 + 2 := jxw_id (by omega) (by omega)
  refine jt_grd (by omega) ?_
  refine jt_bI (sp_X11_meets E d (jd_le hd rfl) (E.2 ((jxw (y3 + 1)).toNat)) (E.2 ((jxw (y3 + 2)).toNat)) a b hv) (fun r109_ a109_ b109_ h109_ => ?_)
  obtain ⟨rfl, rfl⟩ := h109_
  refine jt_eq (bq_law_436 E d y3 a b) ?_
  refine jt_bif (Nat.ble_eq_true_of_le (by omega)) ?_
  refine jt_grd (by omega) ?_
  refine jt_bif (Nat.ble_eq_true_of_le (by omega)) ?_
  refine jt_grd (by omega) ?_
  refine jt_bI (sp_X12_meets E d (jd_le hd rfl) (E.2 ((jxw (y3 + 1)).toNat)) (E.2 ((jxw (y3 + 2)).toNat)) a b hv hg0) (fun r110_ a110_ b110_ h110_ => ?_)
  obtain ⟨hv110_, hf110_, rfl⟩ := h110_
  have h111_ := iv_get hv110_ (k := 4) (j := 6) (l := 0) (u := 40) rfl
  have h112_ : a110_ 4 6 = a 4 6 := hf110_ 4 6 rfl
  have h113_ := iv_get hv110_ (k := 146) (j := 2) (l := 0) (u := 40) rfl
  have h114_ : a110_ 146 2 = a 146 2 := hf110_ 146 2 rfl
  exact hnext a110_ b hv110_ (WFW_fr hg0 hf110_ (fun _ => rfl) (fun _ => rfl)) (SV_fr hg1 hf110_ (fun _ => rfl) (fun _ => rfl)) (OC_fr hg2 hf110_ rfl rfl (fun _ => rfl) (fun _ => rfl) (fun _ => rfl) (fun _ => rfl) (fun _ => rfl)) (FO_fr hg3 hf110_ rfl rfl (fun _ => rfl)) (FW_fr hg4 hf110_ rfl (fun _ => rfl)) (show a110_ 4 6 = a110_ 146 2 from by omega)
theorem lw_op454 (E : jxE) (d : Nat) (hd : Nat.ble 60 (d + 1) = true) (hL : E.1 ≤ 3072) (y3 : Int) (hy0 : 0 ≤ y3) (hy1 : y3 + 6 ≤ E.1) (hnext : ∀ (a b : Nat → Nat → Int) (hv : iv a) (hg0 : WFW a) (hg1 : SV a) (hg2 : OC a) (hg3 : FO a) (hg4 : FW a) (hr0 : a 4 6 = a 146 2), jt (jxX E d 305 1189 [some (.inr (.inr (.inl 3000))), some (.inr (.inr (.inl 0))), some (.inr (.inr (.inl 146))), some (.inl y3)] [] (jxSH, a, b)) (fun v _ _ => v = [.inl 1])) (a b : Nat → Nat → Int) (hv : iv a) (hg0 : WFW a) (hg1 : SV a) (hg2 : OC a) (hg3 : FO a) (hg4 : FW a) (hr0 : a 4 6 = a 146 2) : jt (jxX E d 305 454 [some (.inr (.inr (.inl 3000))), some (.inr (.inr (.inl 0))), some (.inr (.inr (.inl 146))), some (.inl y3)] [] (jxSH, a, b)) (fun v _ _ => v = [.inl 1]) := by
  refine jt_eq (bq_law_454 E d y3 a b) ?_
  have h115_ := iv_get hv (k := 4) (j := 6) (l := 0) (u := 40) rfl
  have h116_ := iv_get hv (k := 146) (j := 2) (l := 0) (u := 40) rfl
  refine jt_bI (sp_X11_rules E d (jd_le hd rfl) a b hv) (fun r117_ a117_ b117_ h117_ => ?_)
  obtain ⟨hv117_, hf117_, rfl⟩ := h117_
  refine jt_eq (bq_law_459 E d y3 a117_ b) ?_
  refine jt_bI (sp_X12_rules E d (jd_le hd rfl) a117_ b hv117_) (fun r118_ a118_ b118_ h118_ => ?_)
  obtain ⟨hv118_, hf118_, rfl⟩ := h118_
  have h119_ := iv_get hv118_ (k := 4) (j := 6) (l := 0) (u := 40) rfl
  have h120_ : a118_ 4 6 = a117_ 4 6 := hf118_ 4 6 rfl
  have h121_ := iv_get hv117_ (k := 4) (j := 6) (l := 0) (u := 40) rfl
  have h122_ : a117_ 4 6 = a 4 6 := hf117_ 4 6 rfl
  have h123_ := iv_get hv118_ (k := 146) (j := 2) (l := 0) (u := 40) rfl
  have h124_ : a118_ 146 2 = a117_ 146 2 := hf118_ 146 2 rfl
  have h125_ := iv_get hv117_ (k := 146) (j := 2) (l := 0) (u := 40) rfl
  have h126_ : a117_ 146 2 = a 146 2 := hf117_ 146 2 rfl
  exact hnext a118_ b hv118_ (WFW_fr (WFW_fr hg0 hf117_ (fun _ => rfl) (fun _ => rfl)) hf118_ (fun _ => rfl) (fun _ => rfl)) (SV_fr (SV_fr hg1 hf117_ (fun _ => rfl) (fun _ => rfl)) hf118_ (fun _ => rfl) (fun _ => rfl)) (OC_fr (OC_fr hg2 hf117_ rfl rfl (fun _ => rfl) (fun _ => rfl) (fun _ => rfl) (fun _ => rfl) (fun _ => rfl)) hf118_ rfl rfl (fun _ => rfl) (fun _ => rfl) (fun _ => rfl) (fun _ => rfl) (fun _ => rfl)) (FO_fr (FO_fr hg3 hf117_ rfl rfl (fun _ => rfl)) hf118_ rfl rfl (fun _ => rfl)) (FW_fr (FW_fr hg4 hf117_ rfl (fun _ => rfl)) hf118_ rfl (fun _ => rfl)) (show a118_ 4 6 = a118_ 146 2 from by omega)
theorem lw_op467 (E : jxE) (d : Nat) (hd : Nat.ble 60 (d + 1) = true) (hL : E.1 ≤ 3072) (y3 : Int) (hy0 : 0 ≤ y3) (hy1 : y3 + 6 ≤ E.1) (hnext : ∀ (a b : Nat → Nat → Int) (hv : iv a) (hg0 : WFW a) (hg1 : SV a) (hg2 : OC a) (hg3 : FO a) (hg4 : FW a) (hr0 : a 4 6 = a 146 2), jt (jxX E d 305 1189 [some (.inr (.inr (.inl 3000))), some (.inr (.inr (.inl 0))), some (.inr (.inr (.inl 146))), some (.inl y3)] [] (jxSH, a, b)) (fun v _ _ => v = [.inl 1])) (a b : Nat → Nat → Int) (hv : iv a) (hg0 : WFW a) (hg1 : SV a) (hg2 : OC a) (hg3 : FO a) (hg4 : FW a) (hr0 : a 4 6 = a 146 2) : jt (jxX E d 305 467 [some (.inr (.inr (.inl 3000))), some (.inr (.inr (.inl 0))), some (.inr (.inr (.inl 146))), some (.inl y3)] [] (jxSH, a, b)) (fun v _ _ => v = [.inl 1]) := by
  refine jt_eq (bq_law_467 E d y3 a b) ?_
  have h127_ := iv_get hv (k := 4) (j := 6) (l := 0) (u := 40) rfl
  have h128_ := iv_get hv (k := 146) (j := 2) (l := 0) (u := 40) rfl
  refine jt_bif (Nat.ble_eq_true_of_le (by omega)) ?_
  have h129_ : jxw (y3 + 1) = y3 + 1 := jxw_id (by omega) (by omega)
  refine jt_grd (by omega) ?_
  refine jt_bI (sp_X11_ask E d (jd_le hd rfl) (E.2 ((jxw (y3 + 1)).toNat)) a b hv) (fun r130_ a130_ b130_ h130_ => ?_)
  obtain ⟨hv130_, hf130_, rfl⟩ := h130_
  refine jt_eq (bq_law_477 E d y3 a130_ b) ?_
  refine jt_bif (Nat.ble_eq_true_of_le (by omega)) ?_
  refine jt_grd (by omega) ?_
  refine jt_bI (sp_X12_ask E d (jd_le hd rfl) (E.2 ((jxw (y3 + 1)).toNat)) a130_ b hv130_ (WFW_fr hg0 hf130_ (fun _ => rfl) (fun _ => rfl)) (OC_fr hg2 hf130_ rfl rfl (fun _ => rfl) (fun _ => rfl) (fun _ => rfl) (fun _ => rfl) (fun _ => rfl))) (fun r131_ a131_ b131_ h131_ => ?_)
  obtain ⟨hv131_, hf131_, rfl, hq131_0⟩ := h131_
  have h132_ := iv_get hv131_ (k := 4) (j := 6) (l := 0) (u := 40) rfl
  have h133_ : a131_ 4 6 = a130_ 4 6 := hf131_ 4 6 rfl
  have h134_ := iv_get hv130_ (k := 4) (j := 6) (l := 0) (u := 40) rfl
  have h135_ : a130_ 4 6 = a 4 6 := hf130_ 4 6 rfl
  have h136_ := iv_get hv131_ (k := 146) (j := 2) (l := 0) (u := 40) rfl
  have h137_ : a131_ 146 2 = a130_ 146 2 := hf131_ 146 2 rfl
  have h138_ := iv_get hv130_ (k := 146) (j := 2) (l := 0) (u := 40) rfl
  have h139_ : a130_ 146 2 = a 146 2 := hf130_ 146 2 rfl
  exact hnext a131_ b hv131_ (WFW_fr (WFW_fr hg0 hf130_ (fun _ => rfl) (fun _ => rfl)) hf131_ (fun _ => rfl) (fun _ => rfl)) (SV_fr (SV_fr hg1 hf130_ (fun _ => rfl) (fun _ => rfl)) hf131_ (fun _ => rfl) (fun _ => rfl)) hq131_0 (FO_fr (FO_fr hg3 hf130_ rfl rfl (fun _ => rfl)) hf131_ rfl rfl (fun _ => rfl)) (FW_fr (FW_fr hg4 hf130_ rfl (fun _ => rfl)) hf131_ rfl (fun _ => rfl)) (show a131_ 4 6 = a131_ 146 2 from by omega)
theorem lw_op490 (E : jxE) (d : Nat) (hd : Nat.ble 60 (d + 1) = true) (hL : E.1 ≤ 3072) (y3 : Int) (hy0 : 0 ≤ y3) (hy1 : y3 + 6 ≤ E.1) (hnext : ∀ (a b : Nat → Nat → Int) (hv : iv a) (hg0 : WFW a) (hg1 : SV a) (hg2 : OC a) (hg3 : FO a) (hg4 : FW a) (hr0 : a 4 6 = a 146 2), jt (jxX E d 305 1189 [some (.inr (.inr (.inl 3000))), some (.inr (.inr (.inl 0))), some (.inr (.inr (.inl 146))), some (.inl y3)] [] (jxSH, a, b)) (fun v _ _ => v = [.inl 1])) (a b : Nat → Nat → Int) (hv : iv a) (hg0 : WFW a) (hg1 : SV a) (hg2 : OC a) (hg3 : FO a) (hg4 : FW a) (hr0 : a 4 6 = a 146 2) : jt (jxX E d 305 490 [some (.inr (.inr (.inl 3000))), some (.inr (.inr (.inl 0))), some (.inr (.inr (.inl 146))), some (.inl y3)] [] (jxSH, a, b)) (fun v _ _ => v = [.inl 1]) := by
  refine jt_eq (bq_law_490 E d y3 a b) ?_
  have h140_ := iv_get hv (k := 4) (j := 6) (l := 0) (u := 40) rfl
  have h141_ := iv_get hv (k := 146) (j := 2) (l := 0) (u := 40) rfl
  refine jt_bif (Nat.ble_eq_true_of_le (by omega)) ?_
  have h142_ : jxw (y3 + 1) = y3 + 1 := jxw_id (by omega) (by omega)
  refine jt_grd (by omega) ?_
  refine jt_bif (Nat.ble_eq_true_of_le (by omega)) ?_
  have h143_ : jxw (y3 + 2) = y3 + 2 := jxw_id (by omega) (by omega)
  refine jt_grd (by omega) ?_
  refine jt_bI (sp_X11_may E d (jd_le hd rfl) (E.2 ((jxw (y3 + 1)).toNat)) (E.2 ((jxw (y3 + 2)).toNat)) a b hv) (fun r144_ a144_ b144_ h144_ => ?_)
  obtain ⟨hv144_, hf144_, rfl⟩ := h144_
  refine jt_eq (bq_law_505 E d y3 a144_ b) ?_
  refine jt_bif (Nat.ble_eq_true_of_le (by omega)) ?_
  refine jt_grd (by omega) ?_
  refine jt_bif (Nat.ble_eq_true_of_le (by omega)) ?_
  refine jt_grd (by omega) ?_
  refine jt_bI (sp_X12_may E d (jd_le hd rfl) (E.2 ((jxw (y3 + 1)).toNat)) (E.2 ((jxw (y3 + 2)).toNat)) a144_ b hv144_ (WFW_fr hg0 hf144_ (fun _ => rfl) (fun _ => rfl))) (fun r145_ a145_ b145_ h145_ => ?_)
  obtain ⟨hv145_, hf145_, rfl⟩ := h145_
  have h146_ := iv_get hv145_ (k := 4) (j := 6) (l := 0) (u := 40) rfl
  have h147_ : a145_ 4 6 = a144_ 4 6 := hf145_ 4 6 rfl
  have h148_ := iv_get hv144_ (k := 4) (j := 6) (l := 0) (u := 40) rfl
  have h149_ : a144_ 4 6 = a 4 6 := hf144_ 4 6 rfl
  have h150_ := iv_get hv145_ (k := 146) (j := 2) (l := 0) (u := 40) rfl
  have h151_ : a145_ 146 2 = a144_ 146 2 := hf145_ 146 2 rfl
  have h152_ := iv_get hv144_ (k := 146) (j := 2) (l := 0) (u := 40) rfl
  have h153_ : a144_ 146 2 = a 146 2 := hf144_ 146 2 rfl
  exact hnext a145_ b hv145_ (WFW_fr (WFW_fr hg0 hf144_ (fun _ => rfl) (fun _ => rfl)) hf145_ (fun _ => rfl) (fun _ => rfl)) (SV_fr (SV_fr hg1 hf144_ (fun _ => rfl) (fun _ => rfl)) hf145_ (fun _ => rfl) (fun _ => rfl)) (OC_fr (OC_fr hg2 hf144_ rfl rfl (fun _ => rfl) (fun _ => rfl) (fun _ => rfl) (fun _ => rfl) (fun _ => rfl)) hf145_ rfl rfl (fun _ => rfl) (fun _ => rfl) (fun _ => rfl) (fun _ => rfl) (fun _ => rfl)) (FO_fr (FO_fr hg3 hf144_ rfl rfl (fun _ => rfl)) hf145_ rfl rfl (fun _ => rfl)) (FW_fr (FW_fr hg4 hf144_ rfl (fun _ => rfl)) hf145_ rfl (fun _ => rfl)) (show a145_ 4 6 = a145_ 146 2 from by omega)
theorem lw_op523 (E : jxE) (d : Nat) (hd : Nat.ble 60 (d + 1) = true) (hL : E.1 ≤ 3072) (y3 : Int) (hy0 : 0 ≤ y3) (hy1 : y3 + 6 ≤ E.1) (hnext : ∀ (a b : Nat → Nat → Int) (hv : iv a) (hg0 : WFW a) (hg1 : SV a) (hg2 : OC a) (hg3 : FO a) (hg4 : FW a) (hr0 : a 4 6 = a 146 2), jt (jxX E d 305 1189 [some (.inr (.inr (.inl 3000))), some (.inr (.inr (.inl 0))), some (.inr (.inr (.inl 146))), some (.inl y3)] [] (jxSH, a, b)) (fun v _ _ => v = [.inl 1])) (a b : Nat → Nat → Int) (hv : iv a) (hg0 : WFW a) (hg1 : SV a) (hg2 : OC a) (hg3 : FO a) (hg4 : FW a) (hr0 : a 4 6 = a 146 2) : jt (jxX E d 305 523 [some (.inr (.inr (.inl 3000))), some (.inr (.inr (.inl 0))), some (.inr (.inr (.inl 146))), some (.inl y3)] [] (jxSH, a, b)) (fun v _ _ => v = [.inl 1]) := by
  refine jt_eq (bq_law_523 E d y3 a b) ?_
  have h154_ := iv_get hv (k := 4) (j := 6) (l := 0) (u := 40) rfl
  have h155_ := iv_get hv (k := 146) (j := 2) (l := 0) (u := 40) rfl
  refine jt_bif (Nat.ble_eq_true_of_le (by omega)) ?_
  have h156_ : jxw (y3 + 1) = y3 + 1 := jxw_id (by omega) (by omega)
  refine jt_grd (by omega) ?_
  refine jt_bI (sp_X11_list E d (jd_le hd rfl) (E.2 ((jxw (y3 + 1)).toNat)) a b hv) (fun r157_ a157_ b157_ h157_ => ?_)
  obtain ⟨hv157_, hf157_, rfl⟩ := h157_
  refine jt_eq (bq_law_533 E d y3 a157_ b) ?_
  refine jt_bif (Nat.ble_eq_true_of_le (by omega)) ?_
  refine jt_grd (by omega) ?_
  refine jt_bI (sp_X12_list E d (jd_le hd rfl) (E.2 ((jxw (y3 + 1)).toNat)) a157_ b hv157_) (fun r158_ a158_ b158_ h158_ => ?_)
  obtain ⟨hv158_, hf158_, rfl⟩ := h158_
  have h159_ := iv_get hv158_ (k := 4) (j := 6) (l := 0) (u := 40) rfl
  have h160_ : a158_ 4 6 = a157_ 4 6 := hf158_ 4 6 rfl
  have h161_ := iv_get hv157_ (k := 4) (j := 6) (l := 0) (u := 40) rfl
  have h162_ : a157_ 4 6 = a 4 6 := hf157_ 4 6 rfl
  have h163_ := iv_get hv158_ (k := 146) (j := 2) (l := 0) (u := 40) rfl
  have h164_ : a158_ 146 2 = a157_ 146 2 := hf158_ 146 2 rfl
  have h165_ := iv_get hv157_ (k := 146) (j := 2) (l := 0) (u := 40) rfl
  have h166_ : a157_ 146 2 = a 146 2 := hf157_ 146 2 rfl
  exact hnext a158_ b hv158_ (WFW_fr (WFW_fr hg0 hf157_ (fun _ => rfl) (fun _ => rfl)) hf158_ (fun _ => rfl) (fun _ => rfl)) (SV_fr (SV_fr hg1 hf157_ (fun _ => rfl) (fun _ => rfl)) hf158_ (fun _ => rfl) (fun _ => rfl)) (OC_fr (OC_fr hg2 hf157_ rfl rfl (fun _ => rfl) (fun _ => rfl) (fun _ => rfl) (fun _ => rfl) (fun _ => rfl)) hf158_ rfl rfl (fun _ => rfl) (fun _ => rfl) (fun _ => rfl) (fun _ => rfl) (fun _ => rfl)) (FO_fr (FO_fr hg3 hf157_ rfl rfl (fun _ => rfl)) hf158_ rfl rfl (fun _ => rfl)) (FW_fr (FW_fr hg4 hf157_ rfl (fun _ => rfl)) hf158_ rfl (fun _ => rfl)) (show a158_ 4 6 = a158_ 146 2 from by omega)
theorem lw_op546 (E : jxE) (d : Nat) (hd : Nat.ble 60 (d + 1) = true) (hL : E.1 ≤ 3072) (y3 : Int) (hy0 : 0 ≤ y3) (hy1 : y3 + 6 ≤ E.1) (hnext : ∀ (a b : Nat → Nat → Int) (hv : iv a) (hg0 : WFW a) (hg1 : SV a) (hg2 : OC a) (hg3 : FO a) (hg4 : FW a) (hr0 : a 4 6 = a 146 2), jt (jxX E d 305 1189 [some (.inr (.inr (.inl 3000))), some (.inr (.inr (.inl 0))), some (.inr (.inr (.inl 146))), some (.inl y3)] [] (jxSH, a, b)) (fun v _ _ => v = [.inl 1])) (a b : Nat → Nat → Int) (hv : iv a) (hg0 : WFW a) (hg1 : SV a) (hg2 : OC a) (hg3 : FO a) (hg4 : FW a) (hr0 : a 4 6 = a 146 2) : jt (jxX E d 305 546 [some (.inr (.inr (.inl 3000))), some (.inr (.inr (.inl 0))), some (.inr (.inr (.inl 146))), some (.inl y3)] [] (jxSH, a, b)) (fun v _ _ => v = [.inl 1]) := by
  refine jt_eq (bq_law_546 E d y3 a b) ?_
  have h167_ := iv_get hv (k := 4) (j := 6) (l := 0) (u := 40) rfl
  have h168_ := iv_get hv (k := 146) (j := 2) (l := 0) (u := 40) rfl
  refine jt_bI (sp_X11_give E d (jd_le hd rfl) a b hv) (fun r169_ a169_ b169_ h169_ => ?_)
  obtain ⟨hv169_, hf169_⟩ := h169_
  refine jt_eq (bq_law_551 E d y3 a169_ b169_) ?_
  refine jt_bI (sp_X12_give E d (jd_le hd rfl) a169_ b169_ hv169_ (WFW_fr hg0 hf169_ (fun _ => rfl) (fun _ => rfl)) (OC_fr hg2 hf169_ rfl rfl (fun _ => rfl) (fun _ => rfl) (fun _ => rfl) (fun _ => rfl) (fun _ => rfl))) (fun r170_ a170_ b170_ h170_ => ?_)
  obtain ⟨hv170_, hf170_, hq170_0⟩ := h170_
  have h171_ := iv_get hv170_ (k := 4) (j := 6) (l := 0) (u := 40) rfl
  have h172_ : a170_ 4 6 = a169_ 4 6 := hf170_ 4 6 rfl
  have h173_ := iv_get hv169_ (k := 4) (j := 6) (l := 0) (u := 40) rfl
  have h174_ : a169_ 4 6 = a 4 6 := hf169_ 4 6 rfl
  have h175_ := iv_get hv170_ (k := 146) (j := 2) (l := 0) (u := 40) rfl
  have h176_ : a170_ 146 2 = a169_ 146 2 := hf170_ 146 2 rfl
  have h177_ := iv_get hv169_ (k := 146) (j := 2) (l := 0) (u := 40) rfl
  have h178_ : a169_ 146 2 = a 146 2 := hf169_ 146 2 rfl
  exact hnext a170_ b170_ hv170_ (WFW_fr (WFW_fr hg0 hf169_ (fun _ => rfl) (fun _ => rfl)) hf170_ (fun _ => rfl) (fun _ => rfl)) (SV_fr (SV_fr hg1 hf169_ (fun _ => rfl) (fun _ => rfl)) hf170_ (fun _ => rfl) (fun _ => rfl)) hq170_0 (FO_fr (FO_fr hg3 hf169_ rfl rfl (fun _ => rfl)) hf170_ rfl rfl (fun _ => rfl)) (FW_fr (FW_fr hg4 hf169_ rfl (fun _ => rfl)) hf170_ rfl (fun _ => rfl)) (show a170_ 4 6 = a170_ 146 2 from by omega)
theorem lw_op559 (E : jxE) (d : Nat) (hd : Nat.ble 60 (d + 1) = true) (hL : E.1 ≤ 3072) (y3 : Int) (hy0 : 0 ≤ y3) (hy1 : y3 + 6 ≤ E.1) (hnext : ∀ (a b : Nat → Nat → Int) (hv : iv a) (hg0 : WFW a) (hg1 : SV a) (hg2 : OC a) (hg3 : FO a) (hg4 : FW a) (hr0 : a 4 6 = a 146 2), jt (jxX E d 305 1189 [some (.inr (.inr (.inl 3000))), some (.inr (.inr (.inl 0))), some (.inr (.inr (.inl 146))), some (.inl y3)] [] (jxSH, a, b)) (fun v _ _ => v = [.inl 1])) (a b : Nat → Nat → Int) (hv : iv a) (hg0 : WFW a) (hg1 : SV a) (hg2 : OC a) (hg3 : FO a) (hg4 : FW a) (hr0 : a 4 6 = a 146 2) : jt (jxX E d 305 559 [some (.inr (.inr (.inl 3000))), some (.inr (.inr (.inl 0))), some (.inr (.inr (.inl 146))), some (.inl y3)] [] (jxSH, a, b)) (fun v _ _ => v = [.inl 1]) := by
  refine jt_eq (bq_law_559 E d y3 a b) ?_
  have h179_ := iv_get hv (k := 4) (j := 6) (l := 0) (u := 40) rfl
  have h180_ := iv_get hv (k := 146) (j := 2) (l := 0) (u := 40) rfl
  refine jt_bif (Nat.ble_eq_true_of_le (by omega)) ?_
  have h181_ : jxw (y3 + 1) = y3 + 1 := jxw_id (by omega) (by omega)
  refine jt_grd (by omega) ?_
  refine jt_bif (Nat.ble_eq_true_of_le (by omega)) ?_
  have h182_ : jxw (y3 + 2) = y3 + 2 := jxw_id (by omega) (by omega)
  refine jt_grd (by omega) ?_
  refine jt_bI (sp_X11_arrive E d (jd_le hd rfl) (E.2 ((jxw (y3 + 1)).toNat)) (E.2 ((jxw (y3 + 2)).toNat)) a b hv) (fun r183_ a183_ b183_ h183_ => ?_)
  obtain ⟨hv183_, hf183_, rfl, hq183_0⟩ := h183_
  refine jt_eq (bq_law_574 E d y3 a183_ b) ?_
  refine jt_bif (Nat.ble_eq_true_of_le (by omega)) ?_
  refine jt_grd (by omega) ?_
  refine jt_bif (Nat.ble_eq_true_of_le (by omega)) ?_
  refine jt_grd (by omega) ?_
  refine jt_bI (sp_X12_arrive E d (jd_le hd rfl) (E.2 ((jxw (y3 + 1)).toNat)) (E.2 ((jxw (y3 + 2)).toNat)) a183_ b hv183_) (fun r184_ a184_ b184_ h184_ => ?_)
  obtain ⟨hv184_, hf184_, rfl, hq184_0⟩ := h184_
  have h185_ := iv_get hv184_ (k := 4) (j := 6) (l := 0) (u := 40) rfl
  have h186_ : a184_ 4 6 = a183_ 4 6 := hf184_ 4 6 rfl
  have h187_ := iv_get hv183_ (k := 4) (j := 6) (l := 0) (u := 40) rfl
  have h188_ : a183_ 4 6 = a 4 6 := hf183_ 4 6 rfl
  have h189_ := iv_get hv184_ (k := 146) (j := 2) (l := 0) (u := 40) rfl
  have h190_ : a184_ 146 2 = a183_ 146 2 := hf184_ 146 2 rfl
  have h191_ := iv_get hv183_ (k := 146) (j := 2) (l := 0) (u := 40) rfl
  have h192_ : a183_ 146 2 = a 146 2 := hf183_ 146 2 rfl
  exact hnext a184_ b hv184_ (WFW_fr (WFW_fr hg0 hf183_ (fun _ => rfl) (fun _ => rfl)) hf184_ (fun _ => rfl) (fun _ => rfl)) (SV_fr (SV_fr hg1 hf183_ (fun _ => rfl) (fun _ => rfl)) hf184_ (fun _ => rfl) (fun _ => rfl)) (OC_fr (OC_fr hg2 hf183_ rfl rfl (fun _ => rfl) (fun _ => rfl) (fun _ => rfl) (fun _ => rfl) (fun _ => rfl)) hf184_ rfl rfl (fun _ => rfl) (fun _ => rfl) (fun _ => rfl) (fun _ => rfl) (fun _ => rfl)) (FO_fr (FO_fr hg3 hf183_ rfl rfl (fun _ => rfl)) hf184_ rfl rfl (fun _ => rfl)) (FW_fr (FW_fr hg4 hf183_ rfl (fun _ => rfl)) hf184_ rfl (fun _ => rfl)) (show a184_ 4 6 = a184_ 146 2 from by omega)
theorem lw_op592 (E : jxE) (d : Nat) (hd : Nat.ble 60 (d + 1) = true) (hL : E.1 ≤ 3072) (y3 : Int) (hy0 : 0 ≤ y3) (hy1 : y3 + 6 ≤ E.1) (hnext : ∀ (a b : Nat → Nat → Int) (hv : iv a) (hg0 : WFW a) (hg1 : SV a) (hg2 : OC a) (hg3 : FO a) (hg4 : FW a) (hr0 : a 4 6 = a 146 2), jt (jxX E d 305 1189 [some (.inr (.inr (.inl 3000))), some (.inr (.inr (.inl 0))), some (.inr (.inr (.inl 146))), some (.inl y3)] [] (jxSH, a, b)) (fun v _ _ => v = [.inl 1])) (a b : Nat → Nat → Int) (hv : iv a) (hg0 : WFW a) (hg1 : SV a) (hg2 : OC a) (hg3 : FO a) (hg4 : FW a) (hr0 : a 4 6 = a 146 2) : jt (jxX E d 305 592 [some (.inr (.inr (.inl 3000))), some (.inr (.inr (.inl 0))), some (.inr (.inr (.inl 146))), some (.inl y3)] [] (jxSH, a, b)) (fun v _ _ => v = [.inl 1]) := by
  refine jt_eq (bq_law_592 E d y3 a b) ?_
  have h193_ := iv_get hv (k := 4) (j := 6) (l := 0) (u := 40) rfl
  have h194_ := iv_get hv (k := 146) (j := 2) (l := 0) (u := 40) rfl
  refine jt_bif (Nat.ble_eq_true_of_le (by omega)) ?_
  have h195_ : jxw (y3 + 1) = y3 + 1 := jxw_id (by omega) (by omega)
  refine jt_grd (by omega) ?_
  refine jt_bI (sp_X11_back E d (jd_le hd rfl) (E.2 ((jxw (y3 + 1)).toNat)) a b hv) (fun r196_ a196_ b196_ h196_ => ?_)
  obtain ⟨hv196_, hf196_, rfl, hq196_0⟩ := h196_
  refine jt_eq (bq_law_602 E d y3 a196_ b) ?_
  refine jt_bif (Nat.ble_eq_true_of_le (by omega)) ?_
  refine jt_grd (by omega) ?_
  refine jt_bI (sp_X12_back E d (jd_le hd rfl) (E.2 ((jxw (y3 + 1)).toNat)) a196_ b hv196_) (fun r197_ a197_ b197_ h197_ => ?_)
  obtain ⟨hv197_, hf197_, rfl, hq197_0⟩ := h197_
  have h198_ := iv_get hv197_ (k := 4) (j := 6) (l := 0) (u := 40) rfl
  have h199_ : a197_ 4 6 = a196_ 4 6 := hf197_ 4 6 rfl
  have h200_ := iv_get hv196_ (k := 4) (j := 6) (l := 0) (u := 40) rfl
  have h201_ : a196_ 4 6 = a 4 6 := hf196_ 4 6 rfl
  have h202_ := iv_get hv197_ (k := 146) (j := 2) (l := 0) (u := 40) rfl
  have h203_ : a197_ 146 2 = a196_ 146 2 := hf197_ 146 2 rfl
  have h204_ := iv_get hv196_ (k := 146) (j := 2) (l := 0) (u := 40) rfl
  have h205_ : a196_ 146 2 = a 146 2 := hf196_ 146 2 rfl
  exact hnext a197_ b hv197_ (WFW_fr (WFW_fr hg0 hf196_ (fun _ => rfl) (fun _ => rfl)) hf197_ (fun _ => rfl) (fun _ => rfl)) (SV_fr (SV_fr hg1 hf196_ (fun _ => rfl) (fun _ => rfl)) hf197_ (fun _ => rfl) (fun _ => rfl)) (OC_fr (OC_fr hg2 hf196_ rfl rfl (fun _ => rfl) (fun _ => rfl) (fun _ => rfl) (fun _ => rfl) (fun _ => rfl)) hf197_ rfl rfl (fun _ => rfl) (fun _ => rfl) (fun _ => rfl) (fun _ => rfl) (fun _ => rfl)) (FO_fr (FO_fr hg3 hf196_ rfl rfl (fun _ => rfl)) hf197_ rfl rfl (fun _ => rfl)) (FW_fr (FW_fr hg4 hf196_ rfl (fun _ => rfl)) hf197_ rfl (fun _ => rfl)) (show a197_ 4 6 = a197_ 146 2 from by omega)
theorem lw_op615 (E : jxE) (d : Nat) (hd : Nat.ble 60 (d + 1) = true) (hL : E.1 ≤ 3072) (y3 : Int) (hy0 : 0 ≤ y3) (hy1 : y3 + 6 ≤ E.1) (hnext : ∀ (a b : Nat → Nat → Int) (hv : iv a) (hg0 : WFW a) (hg1 : SV a) (hg2 : OC a) (hg3 : FO a) (hg4 : FW a) (hr0 : a 4 6 = a 146 2), jt (jxX E d 305 1189 [some (.inr (.inr (.inl 3000))), some (.inr (.inr (.inl 0))), some (.inr (.inr (.inl 146))), some (.inl y3)] [] (jxSH, a, b)) (fun v _ _ => v = [.inl 1])) (a b : Nat → Nat → Int) (hv : iv a) (hg0 : WFW a) (hg1 : SV a) (hg2 : OC a) (hg3 : FO a) (hg4 : FW a) (hr0 : a 4 6 = a 146 2) : jt (jxX E d 305 615 [some (.inr (.inr (.inl 3000))), some (.inr (.inr (.inl 0))), some (.inr (.inr (.inl 146))), some (.inl y3)] [] (jxSH, a, b)) (fun v _ _ => v = [.inl 1]) := by
  refine jt_eq (bq_law_615 E d y3 a b) ?_
  have h206_ := iv_get hv (k := 4) (j := 6) (l := 0) (u := 40) rfl
  have h207_ := iv_get hv (k := 146) (j := 2) (l := 0) (u := 40) rfl
  refine jt_bif (Nat.ble_eq_true_of_le (by omega)) ?_
  have h208_ : jxw (y3 + 1) = y3 + 1 := jxw_id (by omega) (by omega)
  refine jt_grd (by omega) ?_
  refine jt_bif (Nat.ble_eq_true_of_le (by omega)) ?_
  have h209_ : jxw (y3 + 2) = y3 + 2 := jxw_id (by omega) (by omega)
  refine jt_grd (by omega) ?_
  refine jt_eI (eq_X11_card E d (jd_le hd rfl) (E.2 ((jxw (y3 + 1)).toNat)) (E.2 ((jxw (y3 + 2)).toNat)) a b) ?_
  refine jt_eq (bq_law_630 E d y3 a b) ?_
  refine jt_bif (Nat.ble_eq_true_of_le (by omega)) ?_
  refine jt_grd (by omega) ?_
  refine jt_bif (Nat.ble_eq_true_of_le (by omega)) ?_
  refine jt_grd (by omega) ?_
  refine jt_bI (sp_X12_card E d (jd_le hd rfl) (E.2 ((jxw (y3 + 1)).toNat)) (E.2 ((jxw (y3 + 2)).toNat)) a b hv) (fun r210_ a210_ b210_ h210_ => ?_)
  obtain ⟨rfl, rfl⟩ := h210_
  exact hnext a b hv hg0 hg1 hg2 hg3 hg4 (show a 4 6 = a 146 2 from by omega)
theorem lw_op648 (E : jxE) (d : Nat) (hd : Nat.ble 60 (d + 1) = true) (hL : E.1 ≤ 3072) (y3 : Int) (hy0 : 0 ≤ y3) (hy1 : y3 + 6 ≤ E.1) (hnext : ∀ (a b : Nat → Nat → Int) (hv : iv a) (hg0 : WFW a) (hg1 : SV a) (hg2 : OC a) (hg3 : FO a) (hg4 : FW a) (hr0 : a 4 6 = a 146 2), jt (jxX E d 305 1189 [some (.inr (.inr (.inl 3000))), some (.inr (.inr (.inl 0))), some (.inr (.inr (.inl 146))), some (.inl y3)] [] (jxSH, a, b)) (fun v _ _ => v = [.inl 1])) (a b : Nat → Nat → Int) (hv : iv a) (hg0 : WFW a) (hg1 : SV a) (hg2 : OC a) (hg3 : FO a) (hg4 : FW a) (hr0 : a 4 6 = a 146 2) : jt (jxX E d 305 648 [some (.inr (.inr (.inl 3000))), some (.inr (.inr (.inl 0))), some (.inr (.inr (.inl 146))), some (.inl y3)] [] (jxSH, a, b)) (fun v _ _ => v = [.inl 1]) := by
  refine jt_eq (bq_law_648 E d y3 a b) ?_
  have h211_ := iv_get hv (k := 4) (j := 6) (l := 0) (u := 40) rfl
  have h212_ := iv_get hv (k := 146) (j := 2) (l := 0) (u := 40) rfl
  refine jt_bif (Nat.ble_eq_true_of_le (by omega)) ?_
  have h213_ : jxw (y3 + 1) = y3 + 1 := jxw_id (by omega) (by omega)
  refine jt_grd (by omega) ?_
  refine jt_bif (Nat.ble_eq_true_of_le (by omega)) ?_
  have h214_ : jxw (y3 + 2) = y3 + 2 := jxw_id (by omega) (by omega)
  refine jt_grd (by omega) ?_
  refine jt_bif (Nat.ble_eq_true_of_le (by omega)) ?_
  have h215_ : jxw (y3 + 3) = y3 + 3 := jxw_id (by omega) (by omega)
  refine jt_grd (by omega) ?_
  refine jt_bI (sp_X11_state E d (jd_le hd rfl) (E.2 ((jxw (y3 + 1)).toNat)) (E.2 ((jxw (y3 + 2)).toNat)) (E.2 ((jxw (y3 + 3)).toNat)) a b hv) (fun r216_ a216_ b216_ h216_ => ?_)
  obtain ⟨rfl, rfl⟩ := h216_
  refine jt_eq (bq_law_668 E d y3 a b) ?_
  refine jt_bif (Nat.ble_eq_true_of_le (by omega)) ?_
  refine jt_grd (by omega) ?_
  refine jt_bif (Nat.ble_eq_true_of_le (by omega)) ?_
  refine jt_grd (by omega) ?_
  refine jt_bif (Nat.ble_eq_true_of_le (by omega)) ?_
  refine jt_grd (by omega) ?_
  refine jt_bI (sp_X12_state E d (jd_le hd rfl) (E.2 ((jxw (y3 + 1)).toNat)) (E.2 ((jxw (y3 + 2)).toNat)) (E.2 ((jxw (y3 + 3)).toNat)) a b hv) (fun r217_ a217_ b217_ h217_ => ?_)
  obtain ⟨rfl, rfl⟩ := h217_
  refine jt_eq (bq_law_688 E d y3 a b) ?_
  exact hnext a b hv hg0 hg1 hg2 hg3 hg4 (show a 4 6 = a 146 2 from by omega)
theorem lw_op691 (E : jxE) (d : Nat) (hd : Nat.ble 60 (d + 1) = true) (hL : E.1 ≤ 3072) (y3 : Int) (hy0 : 0 ≤ y3) (hy1 : y3 + 6 ≤ E.1) (hnext : ∀ (a b : Nat → Nat → Int) (hv : iv a) (hg0 : WFW a) (hg1 : SV a) (hg2 : OC a) (hg3 : FO a) (hg4 : FW a) (hr0 : a 4 6 = a 146 2), jt (jxX E d 305 1189 [some (.inr (.inr (.inl 3000))), some (.inr (.inr (.inl 0))), some (.inr (.inr (.inl 146))), some (.inl y3)] [] (jxSH, a, b)) (fun v _ _ => v = [.inl 1])) (a b : Nat → Nat → Int) (hv : iv a) (hg0 : WFW a) (hg1 : SV a) (hg2 : OC a) (hg3 : FO a) (hg4 : FW a) (hr0 : a 4 6 = a 146 2) : jt (jxX E d 305 691 [some (.inr (.inr (.inl 3000))), some (.inr (.inr (.inl 0))), some (.inr (.inr (.inl 146))), some (.inl y3)] [] (jxSH, a, b)) (fun v _ _ => v = [.inl 1]) := by
  refine jt_eq (bq_law_691 E d y3 a b) ?_
  have h218_ := iv_get hv (k := 4) (j := 6) (l := 0) (u := 40) rfl
  have h219_ := iv_get hv (k := 146) (j := 2) (l := 0) (u := 40) rfl
  refine jt_bif (Nat.ble_eq_true_of_le (by omega)) ?_
  have h220_ : jxw (y3 + 1) = y3 + 1 := jxw_id (by omega) (by omega)
  refine jt_grd (by omega) ?_
  refine jt_bif (Nat.ble_eq_true_of_le (by omega)) ?_
  have h221_ : jxw (y3 + 2) = y3 + 2 := jxw_id (by omega) (by omega)
  refine jt_grd (by omega) ?_
  refine jt_bI (sp_X11_about E d (jd_le hd rfl) (E.2 ((jxw (y3 + 1)).toNat)) (E.2 ((jxw (y3 + 2)).toNat)) a b hv) (fun r222_ a222_ b222_ h222_ => ?_)
  obtain ⟨hv222_, hf222_, rfl⟩ := h222_
  refine jt_eq (bq_law_706 E d y3 a222_ b) ?_
  refine jt_bif (Nat.ble_eq_true_of_le (by omega)) ?_
  refine jt_grd (by omega) ?_
  refine jt_bif (Nat.ble_eq_true_of_le (by omega)) ?_
  refine jt_grd (by omega) ?_
  refine jt_bI (sp_X12_about E d (jd_le hd rfl) (E.2 ((jxw (y3 + 1)).toNat)) (E.2 ((jxw (y3 + 2)).toNat)) a222_ b hv222_) (fun r223_ a223_ b223_ h223_ => ?_)
  obtain ⟨rfl, rfl⟩ := h223_
  have h224_ := iv_get hv222_ (k := 4) (j := 6) (l := 0) (u := 40) rfl
  have h225_ : a222_ 4 6 = a 4 6 := hf222_ 4 6 rfl
  have h226_ := iv_get hv222_ (k := 146) (j := 2) (l := 0) (u := 40) rfl
  have h227_ : a222_ 146 2 = a 146 2 := hf222_ 146 2 rfl
  exact hnext a222_ b hv222_ (WFW_fr hg0 hf222_ (fun _ => rfl) (fun _ => rfl)) (SV_fr hg1 hf222_ (fun _ => rfl) (fun _ => rfl)) (OC_fr hg2 hf222_ rfl rfl (fun _ => rfl) (fun _ => rfl) (fun _ => rfl) (fun _ => rfl) (fun _ => rfl)) (FO_fr hg3 hf222_ rfl rfl (fun _ => rfl)) (FW_fr hg4 hf222_ rfl (fun _ => rfl)) (show a222_ 4 6 = a222_ 146 2 from by omega)
theorem lw_op724 (E : jxE) (d : Nat) (hd : Nat.ble 60 (d + 1) = true) (hL : E.1 ≤ 3072) (y3 : Int) (hy0 : 0 ≤ y3) (hy1 : y3 + 6 ≤ E.1) (hnext : ∀ (a b : Nat → Nat → Int) (hv : iv a) (hg0 : WFW a) (hg1 : SV a) (hg2 : OC a) (hg3 : FO a) (hg4 : FW a) (hr0 : a 4 6 = a 146 2), jt (jxX E d 305 1189 [some (.inr (.inr (.inl 3000))), some (.inr (.inr (.inl 0))), some (.inr (.inr (.inl 146))), some (.inl y3)] [] (jxSH, a, b)) (fun v _ _ => v = [.inl 1])) (a b : Nat → Nat → Int) (hv : iv a) (hg0 : WFW a) (hg1 : SV a) (hg2 : OC a) (hg3 : FO a) (hg4 : FW a) (hr0 : a 4 6 = a 146 2) : jt (jxX E d 305 724 [some (.inr (.inr (.inl 3000))), some (.inr (.inr (.inl 0))), some (.inr (.inr (.inl 146))), some (.inl y3)] [] (jxSH, a, b)) (fun v _ _ => v = [.inl 1]) := by
  refine jt_eq (bq_law_724 E d y3 a b) ?_
  have h228_ := iv_get hv (k := 4) (j := 6) (l := 0) (u := 40) rfl
  have h229_ := iv_get hv (k := 146) (j := 2) (l := 0) (u := 40) rfl
  refine jt_bif (Nat.ble_eq_true_of_le (by omega)) ?_
  have h230_ : jxw (y3 + 1) = y3 + 1 := jxw_id (by omega) (by omega)
  refine jt_grd (by omega) ?_
  refine jt_bI (sp_X11_album E d (jd_le hd rfl) (E.2 ((jxw (y3 + 1)).toNat)) a b hv) (fun r231_ a231_ b231_ h231_ => ?_)
  obtain ⟨rfl, rfl⟩ := h231_
  refine jt_eq (bq_law_734 E d y3 a b) ?_
  refine jt_bif (Nat.ble_eq_true_of_le (by omega)) ?_
  refine jt_grd (by omega) ?_
  refine jt_bI (sp_X12_album E d (jd_le hd rfl) (E.2 ((jxw (y3 + 1)).toNat)) a b hv) (fun r232_ a232_ b232_ h232_ => ?_)
  obtain ⟨rfl, rfl⟩ := h232_
  exact hnext a b hv hg0 hg1 hg2 hg3 hg4 (show a 4 6 = a 146 2 from by omega)
theorem lw_op747 (E : jxE) (d : Nat) (hd : Nat.ble 60 (d + 1) = true) (hL : E.1 ≤ 3072) (y3 : Int) (hy0 : 0 ≤ y3) (hy1 : y3 + 6 ≤ E.1) (hnext : ∀ (a b : Nat → Nat → Int) (hv : iv a) (hg0 : WFW a) (hg1 : SV a) (hg2 : OC a) (hg3 : FO a) (hg4 : FW a) (hr0 : a 4 6 = a 146 2), jt (jxX E d 305 1189 [some (.inr (.inr (.inl 3000))), some (.inr (.inr (.inl 0))), some (.inr (.inr (.inl 146))), some (.inl y3)] [] (jxSH, a, b)) (fun v _ _ => v = [.inl 1])) (a b : Nat → Nat → Int) (hv : iv a) (hg0 : WFW a) (hg1 : SV a) (hg2 : OC a) (hg3 : FO a) (hg4 : FW a) (hr0 : a 4 6 = a 146 2) : jt (jxX E d 305 747 [some (.inr (.inr (.inl 3000))), some (.inr (.inr (.inl 0))), some (.inr (.inr (.inl 146))), some (.inl y3)] [] (jxSH, a, b)) (fun v _ _ => v = [.inl 1]) := by
  refine jt_eq (bq_law_747 E d y3 a b) ?_
  have h233_ := iv_get hv (k := 4) (j := 6) (l := 0) (u := 40) rfl
  have h234_ := iv_get hv (k := 146) (j := 2) (l := 0) (u := 40) rfl
  refine jt_bif (Nat.ble_eq_true_of_le (by omega)) ?_
  have h235_ : jxw (y3 + 1) = y3 + 1 := jxw_id (by omega) (by omega)
  refine jt_grd (by omega) ?_
  refine jt_bif (Nat.ble_eq_true_of_le (by omega)) ?_
  have h236_ : jxw (y3 + 2) = y3 + 2 := jxw_id (by omega) (by omega)
  refine jt_grd (by omega) ?_
  refine jt_bif (Nat.ble_eq_true_of_le (by omega)) ?_
  have h237_ : jxw (y3 + 3) = y3 + 3 := jxw_id (by omega) (by omega)
  refine jt_grd (by omega) ?_
  refine jt_bI (sp_X11_span E d (jd_le hd rfl) (E.2 ((jxw (y3 + 1)).toNat)) (E.2 ((jxw (y3 + 2)).toNat)) (E.2 ((jxw (y3 + 3)).toNat)) a b hv) (fun r238_ a238_ b238_ h238_ => ?_)
  obtain ⟨hv238_, hf238_, rfl⟩ := h238_
  refine jt_eq (bq_law_767 E d y3 a238_ b) ?_
  refine jt_bif (Nat.ble_eq_true_of_le (by omega)) ?_
  refine jt_grd (by omega) ?_
  refine jt_bif (Nat.ble_eq_true_of_le (by omega)) ?_
  refine jt_grd (by omega) ?_
  refine jt_bif (Nat.ble_eq_true_of_le (by omega)) ?_
  refine jt_grd (by omega) ?_
  refine jt_bI (sp_X12_span E d (jd_le hd rfl) (E.2 ((jxw (y3 + 1)).toNat)) (E.2 ((jxw (y3 + 2)).toNat)) (E.2 ((jxw (y3 + 3)).toNat)) a238_ b hv238_) (fun r239_ a239_ b239_ h239_ => ?_)
  obtain ⟨hv239_, hf239_, rfl⟩ := h239_
  refine jt_eq (bq_law_787 E d y3 a239_ b) ?_
  have h240_ := iv_get hv239_ (k := 4) (j := 6) (l := 0) (u := 40) rfl
  have h241_ : a239_ 4 6 = a238_ 4 6 := hf239_ 4 6 rfl
  have h242_ := iv_get hv238_ (k := 4) (j := 6) (l := 0) (u := 40) rfl
  have h243_ : a238_ 4 6 = a 4 6 := hf238_ 4 6 rfl
  have h244_ := iv_get hv239_ (k := 146) (j := 2) (l := 0) (u := 40) rfl
  have h245_ : a239_ 146 2 = a238_ 146 2 := hf239_ 146 2 rfl
  have h246_ := iv_get hv238_ (k := 146) (j := 2) (l := 0) (u := 40) rfl
  have h247_ : a238_ 146 2 = a 146 2 := hf238_ 146 2 rfl
  exact hnext a239_ b hv239_ (WFW_fr (WFW_fr hg0 hf238_ (fun _ => rfl) (fun _ => rfl)) hf239_ (fun _ => rfl) (fun _ => rfl)) (SV_fr (SV_fr hg1 hf238_ (fun _ => rfl) (fun _ => rfl)) hf239_ (fun _ => rfl) (fun _ => rfl)) (OC_fr (OC_fr hg2 hf238_ rfl rfl (fun _ => rfl) (fun _ => rfl) (fun _ => rfl) (fun _ => rfl) (fun _ => rfl)) hf239_ rfl rfl (fun _ => rfl) (fun _ => rfl) (fun _ => rfl) (fun _ => rfl) (fun _ => rfl)) (FO_fr (FO_fr hg3 hf238_ rfl rfl (fun _ => rfl)) hf239_ rfl rfl (fun _ => rfl)) (FW_fr (FW_fr hg4 hf238_ rfl (fun _ => rfl)) hf239_ rfl (fun _ => rfl)) (show a239_ 4 6 = a239_ 146 2 from by omega)
theorem lw_op790 (E : jxE) (d : Nat) (hd : Nat.ble 60 (d + 1) = true) (hL : E.1 ≤ 3072) (y3 : Int) (hy0 : 0 ≤ y3) (hy1 : y3 + 6 ≤ E.1) (hnext : ∀ (a b : Nat → Nat → Int) (hv : iv a) (hg0 : WFW a) (hg1 : SV a) (hg2 : OC a) (hg3 : FO a) (hg4 : FW a) (hr0 : a 4 6 = a 146 2), jt (jxX E d 305 1189 [some (.inr (.inr (.inl 3000))), some (.inr (.inr (.inl 0))), some (.inr (.inr (.inl 146))), some (.inl y3)] [] (jxSH, a, b)) (fun v _ _ => v = [.inl 1])) (a b : Nat → Nat → Int) (hv : iv a) (hg0 : WFW a) (hg1 : SV a) (hg2 : OC a) (hg3 : FO a) (hg4 : FW a) (hr0 : a 4 6 = a 146 2) : jt (jxX E d 305 790 [some (.inr (.inr (.inl 3000))), some (.inr (.inr (.inl 0))), some (.inr (.inr (.inl 146))), some (.inl y3)] [] (jxSH, a, b)) (fun v _ _ => v = [.inl 1]) := by
  refine jt_eq (bq_law_790 E d y3 a b) ?_
  have h248_ := iv_get hv (k := 4) (j := 6) (l := 0) (u := 40) rfl
  have h249_ := iv_get hv (k := 146) (j := 2) (l := 0) (u := 40) rfl
  refine jt_bif (Nat.ble_eq_true_of_le (by omega)) ?_
  have h250_ : jxw (y3 + 1) = y3 + 1 := jxw_id (by omega) (by omega)
  refine jt_grd (by omega) ?_
  refine jt_bif (Nat.ble_eq_true_of_le (by omega)) ?_
  have h251_ : jxw (y3 + 2) = y3 + 2 := jxw_id (by omega) (by omega)
  refine jt_grd (by omega) ?_
  refine jt_bif (Nat.ble_eq_true_of_le (by omega)) ?_
  have h252_ : jxw (y3 + 3) = y3 + 3 := jxw_id (by omega) (by omega)
  refine jt_grd (by omega) ?_
  refine jt_bI (sp_X11_offer E d (jd_le hd rfl) (E.2 ((jxw (y3 + 1)).toNat)) (E.2 ((jxw (y3 + 2)).toNat)) (E.2 ((jxw (y3 + 3)).toNat)) a b hv) (fun r253_ a253_ b253_ h253_ => ?_)
  obtain ⟨hv253_, hf253_, rfl⟩ := h253_
  refine jt_eq (bq_law_810 E d y3 a253_ b) ?_
  refine jt_bif (Nat.ble_eq_true_of_le (by omega)) ?_
  refine jt_grd (by omega) ?_
  refine jt_bif (Nat.ble_eq_true_of_le (by omega)) ?_
  refine jt_grd (by omega) ?_
  refine jt_bif (Nat.ble_eq_true_of_le (by omega)) ?_
  refine jt_grd (by omega) ?_
  refine jt_bI (sp_X12_offer E d (jd_le hd rfl) (E.2 ((jxw (y3 + 1)).toNat)) (E.2 ((jxw (y3 + 2)).toNat)) (E.2 ((jxw (y3 + 3)).toNat)) a253_ b hv253_ (OC_fr hg2 hf253_ rfl rfl (fun _ => rfl) (fun _ => rfl) (fun _ => rfl) (fun _ => rfl) (fun _ => rfl)) (FO_fr hg3 hf253_ rfl rfl (fun _ => rfl)) (FW_fr hg4 hf253_ rfl (fun _ => rfl))) (fun r254_ a254_ b254_ h254_ => ?_)
  obtain ⟨hv254_, hf254_, rfl, hq254_0, hq254_1, hq254_2⟩ := h254_
  refine jt_eq (bq_law_830 E d y3 a254_ b) ?_
  have h255_ := iv_get hv254_ (k := 4) (j := 6) (l := 0) (u := 40) rfl
  have h256_ : a254_ 4 6 = a253_ 4 6 := hf254_ 4 6 rfl
  have h257_ := iv_get hv253_ (k := 4) (j := 6) (l := 0) (u := 40) rfl
  have h258_ : a253_ 4 6 = a 4 6 := hf253_ 4 6 rfl
  have h259_ := iv_get hv254_ (k := 146) (j := 2) (l := 0) (u := 40) rfl
  have h260_ : a254_ 146 2 = a253_ 146 2 := hf254_ 146 2 rfl
  have h261_ := iv_get hv253_ (k := 146) (j := 2) (l := 0) (u := 40) rfl
  have h262_ : a253_ 146 2 = a 146 2 := hf253_ 146 2 rfl
  exact hnext a254_ b hv254_ (WFW_fr (WFW_fr hg0 hf253_ (fun _ => rfl) (fun _ => rfl)) hf254_ (fun _ => rfl) (fun _ => rfl)) (SV_fr (SV_fr hg1 hf253_ (fun _ => rfl) (fun _ => rfl)) hf254_ (fun _ => rfl) (fun _ => rfl)) hq254_0 hq254_1 hq254_2 (show a254_ 4 6 = a254_ 146 2 from by omega)
theorem lw_op833 (E : jxE) (d : Nat) (hd : Nat.ble 60 (d + 1) = true) (hL : E.1 ≤ 3072) (y3 : Int) (hy0 : 0 ≤ y3) (hy1 : y3 + 6 ≤ E.1) (hnext : ∀ (a b : Nat → Nat → Int) (hv : iv a) (hg0 : WFW a) (hg1 : SV a) (hg2 : OC a) (hg3 : FO a) (hg4 : FW a) (hr0 : a 4 6 = a 146 2), jt (jxX E d 305 1189 [some (.inr (.inr (.inl 3000))), some (.inr (.inr (.inl 0))), some (.inr (.inr (.inl 146))), some (.inl y3)] [] (jxSH, a, b)) (fun v _ _ => v = [.inl 1])) (a b : Nat → Nat → Int) (hv : iv a) (hg0 : WFW a) (hg1 : SV a) (hg2 : OC a) (hg3 : FO a) (hg4 : FW a) (hr0 : a 4 6 = a 146 2) : jt (jxX E d 305 833 [some (.inr (.inr (.inl 3000))), some (.inr (.inr (.inl 0))), some (.inr (.inr (.inl 146))), some (.inl y3)] [] (jxSH, a, b)) (fun v _ _ => v = [.inl 1]) := by
  refine jt_eq (bq_law_833 E d y3 a b) ?_
  have h263_ := iv_get hv (k := 4) (j := 6) (l := 0) (u := 40) rfl
  have h264_ := iv_get hv (k := 146) (j := 2) (l := 0) (u := 40) rfl
  refine jt_bif (Nat.ble_eq_true_of_le (by omega)) ?_
  have h265_ : jxw (y3 + 1) = y3 + 1 := jxw_id (by omega) (by omega)
  refine jt_grd (by omega) ?_
  refine jt_bI (sp_X11_away E d (jd_le hd rfl) (E.2 ((jxw (y3 + 1)).toNat)) a b hv) (fun r266_ a266_ b266_ h266_ => ?_)
  obtain ⟨hv266_, hf266_, rfl, hq266_0⟩ := h266_
  refine jt_eq (bq_law_843 E d y3 a266_ b) ?_
  refine jt_bif (Nat.ble_eq_true_of_le (by omega)) ?_
  refine jt_grd (by omega) ?_
  refine jt_bI (sp_X12_away E d (jd_le hd rfl) (E.2 ((jxw (y3 + 1)).toNat)) a266_ b hv266_ (OC_fr hg2 hf266_ rfl rfl (fun _ => rfl) (fun _ => rfl) (fun _ => rfl) (fun _ => rfl) (fun _ => rfl))) (fun r267_ a267_ b267_ h267_ => ?_)
  obtain ⟨hv267_, hf267_, rfl, hq267_0, hq267_1⟩ := h267_
  have h268_ := iv_get hv267_ (k := 4) (j := 6) (l := 0) (u := 40) rfl
  have h269_ : a267_ 4 6 = a266_ 4 6 := hf267_ 4 6 rfl
  have h270_ := iv_get hv266_ (k := 4) (j := 6) (l := 0) (u := 40) rfl
  have h271_ : a266_ 4 6 = a 4 6 := hf266_ 4 6 rfl
  have h272_ := iv_get hv267_ (k := 146) (j := 2) (l := 0) (u := 40) rfl
  have h273_ : a267_ 146 2 = a266_ 146 2 := hf267_ 146 2 rfl
  have h274_ := iv_get hv266_ (k := 146) (j := 2) (l := 0) (u := 40) rfl
  have h275_ : a266_ 146 2 = a 146 2 := hf266_ 146 2 rfl
  exact hnext a267_ b hv267_ (WFW_fr (WFW_fr hg0 hf266_ (fun _ => rfl) (fun _ => rfl)) hf267_ (fun _ => rfl) (fun _ => rfl)) (SV_fr (SV_fr hg1 hf266_ (fun _ => rfl) (fun _ => rfl)) hf267_ (fun _ => rfl) (fun _ => rfl)) hq267_1 (FO_fr (FO_fr hg3 hf266_ rfl rfl (fun _ => rfl)) hf267_ rfl rfl (fun _ => rfl)) (FW_fr (FW_fr hg4 hf266_ rfl (fun _ => rfl)) hf267_ rfl (fun _ => rfl)) (show a267_ 4 6 = a267_ 146 2 from by omega)
theorem lw_op856 (E : jxE) (d : Nat) (hd : Nat.ble 60 (d + 1) = true) (hL : E.1 ≤ 3072) (y3 : Int) (hy0 : 0 ≤ y3) (hy1 : y3 + 6 ≤ E.1) (hnext : ∀ (a b : Nat → Nat → Int) (hv : iv a) (hg0 : WFW a) (hg1 : SV a) (hg2 : OC a) (hg3 : FO a) (hg4 : FW a) (hr0 : a 4 6 = a 146 2), jt (jxX E d 305 1189 [some (.inr (.inr (.inl 3000))), some (.inr (.inr (.inl 0))), some (.inr (.inr (.inl 146))), some (.inl y3)] [] (jxSH, a, b)) (fun v _ _ => v = [.inl 1])) (a b : Nat → Nat → Int) (hv : iv a) (hg0 : WFW a) (hg1 : SV a) (hg2 : OC a) (hg3 : FO a) (hg4 : FW a) (hr0 : a 4 6 = a 146 2) : jt (jxX E d 305 856 [some (.inr (.inr (.inl 3000))), some (.inr (.inr (.inl 0))), some (.inr (.inr (.inl 146))), some (.inl y3)] [] (jxSH, a, b)) (fun v _ _ => v = [.inl 1]) := by
  refine jt_eq (bq_law_856 E d y3 a b) ?_
  have h276_ := iv_get hv (k := 4) (j := 6) (l := 0) (u := 40) rfl
  have h277_ := iv_get hv (k := 146) (j := 2) (l := 0) (u := 40) rfl
  refine jt_bI (sp_X11_rings E d (jd_le hd rfl) a b hv) (fun r278_ a278_ b278_ h278_ => ?_)
  obtain ⟨hv278_, hf278_⟩ := h278_
  refine jt_eq (bq_law_861 E d y3 a278_ b278_) ?_
  refine jt_bI (sp_X12_rings E d (jd_le hd rfl) a278_ b278_ hv278_ (FO_fr hg3 hf278_ rfl rfl (fun _ => rfl)) (FW_fr hg4 hf278_ rfl (fun _ => rfl))) (fun r279_ a279_ b279_ h279_ => ?_)
  obtain ⟨hv279_, hf279_, rfl, hq279_0, hq279_1⟩ := h279_
  have h280_ := iv_get hv279_ (k := 4) (j := 6) (l := 0) (u := 40) rfl
  have h281_ : a279_ 4 6 = a278_ 4 6 := hf279_ 4 6 rfl
  have h282_ := iv_get hv278_ (k := 4) (j := 6) (l := 0) (u := 40) rfl
  have h283_ : a278_ 4 6 = a 4 6 := hf278_ 4 6 rfl
  have h284_ := iv_get hv279_ (k := 146) (j := 2) (l := 0) (u := 40) rfl
  have h285_ : a279_ 146 2 = a278_ 146 2 := hf279_ 146 2 rfl
  have h286_ := iv_get hv278_ (k := 146) (j := 2) (l := 0) (u := 40) rfl
  have h287_ : a278_ 146 2 = a 146 2 := hf278_ 146 2 rfl
  exact hnext a279_ b278_ hv279_ (WFW_fr (WFW_fr hg0 hf278_ (fun _ => rfl) (fun _ => rfl)) hf279_ (fun _ => rfl) (fun _ => rfl)) (SV_fr (SV_fr hg1 hf278_ (fun _ => rfl) (fun _ => rfl)) hf279_ (fun _ => rfl) (fun _ => rfl)) (OC_fr (OC_fr hg2 hf278_ rfl rfl (fun _ => rfl) (fun _ => rfl) (fun _ => rfl) (fun _ => rfl) (fun _ => rfl)) hf279_ rfl rfl (fun _ => rfl) (fun _ => rfl) (fun _ => rfl) (fun _ => rfl) (fun _ => rfl)) hq279_0 hq279_1 (show a279_ 4 6 = a279_ 146 2 from by omega)
theorem lw_op869 (E : jxE) (d : Nat) (hd : Nat.ble 60 (d + 1) = true) (hL : E.1 ≤ 3072) (y3 : Int) (hy0 : 0 ≤ y3) (hy1 : y3 + 6 ≤ E.1) (hnext : ∀ (a b : Nat → Nat → Int) (hv : iv a) (hg0 : WFW a) (hg1 : SV a) (hg2 : OC a) (hg3 : FO a) (hg4 : FW a) (hr0 : a 4 6 = a 146 2), jt (jxX E d 305 1189 [some (.inr (.inr (.inl 3000))), some (.inr (.inr (.inl 0))), some (.inr (.inr (.inl 146))), some (.inl y3)] [] (jxSH, a, b)) (fun v _ _ => v = [.inl 1])) (a b : Nat → Nat → Int) (hv : iv a) (hg0 : WFW a) (hg1 : SV a) (hg2 : OC a) (hg3 : FO a) (hg4 : FW a) (hr0 : a 4 6 = a 146 2) : jt (jxX E d 305 869 [some (.inr (.inr (.inl 3000))), some (.inr (.inr (.inl 0))), some (.inr (.inr (.inl 146))), some (.inl y3)] [] (jxSH, a, b)) (fun v _ _ => v = [.inl 1]) := by
  refine jt_eq (bq_law_869 E d y3 a b) ?_
  have h288_ := iv_get hv (k := 4) (j := 6) (l := 0) (u := 40) rfl
  have h289_ := iv_get hv (k := 146) (j := 2) (l := 0) (u := 40) rfl
  refine jt_bif (Nat.ble_eq_true_of_le (by omega)) ?_
  have h290_ : jxw (y3 + 1) = y3 + 1 := jxw_id (by omega) (by omega)
  refine jt_grd (by omega) ?_
  refine jt_bif (Nat.ble_eq_true_of_le (by omega)) ?_
  have h291_ : jxw (y3 + 2) = y3 + 2 := jxw_id (by omega) (by omega)
  refine jt_grd (by omega) ?_
  refine jt_eI (eq_X11_ring E d (jd_le hd rfl) (E.2 ((jxw (y3 + 1)).toNat)) (E.2 ((jxw (y3 + 2)).toNat)) a b) ?_
  refine jt_eq (bq_law_884 E d y3 a b) ?_
  refine jt_bif (Nat.ble_eq_true_of_le (by omega)) ?_
  refine jt_grd (by omega) ?_
  refine jt_bif (Nat.ble_eq_true_of_le (by omega)) ?_
  refine jt_grd (by omega) ?_
  refine jt_eI (eq_X12_ring E d (jd_le hd rfl) (E.2 ((jxw (y3 + 1)).toNat)) (E.2 ((jxw (y3 + 2)).toNat)) a b hv) ?_
  exact hnext a b hv hg0 hg1 hg2 hg3 hg4 (show a 4 6 = a 146 2 from by omega)
theorem lw_op902 (E : jxE) (d : Nat) (hd : Nat.ble 60 (d + 1) = true) (hL : E.1 ≤ 3072) (y3 : Int) (hy0 : 0 ≤ y3) (hy1 : y3 + 6 ≤ E.1) (hnext : ∀ (a b : Nat → Nat → Int) (hv : iv a) (hg0 : WFW a) (hg1 : SV a) (hg2 : OC a) (hg3 : FO a) (hg4 : FW a) (hr0 : a 4 6 = a 146 2), jt (jxX E d 305 1189 [some (.inr (.inr (.inl 3000))), some (.inr (.inr (.inl 0))), some (.inr (.inr (.inl 146))), some (.inl y3)] [] (jxSH, a, b)) (fun v _ _ => v = [.inl 1])) (a b : Nat → Nat → Int) (hv : iv a) (hg0 : WFW a) (hg1 : SV a) (hg2 : OC a) (hg3 : FO a) (hg4 : FW a) (hr0 : a 4 6 = a 146 2) : jt (jxX E d 305 902 [some (.inr (.inr (.inl 3000))), some (.inr (.inr (.inl 0))), some (.inr (.inr (.inl 146))), some (.inl y3)] [] (jxSH, a, b)) (fun v _ _ => v = [.inl 1]) := by
  refine jt_eq (bq_law_902 E d y3 a b) ?_
  have h292_ := iv_get hv (k := 4) (j := 6) (l := 0) (u := 40) rfl
  have h293_ := iv_get hv (k := 146) (j := 2) (l := 0) (u := 40) rfl
  refine jt_bif (Nat.ble_eq_true_of_le (by omega)) ?_
  have h294_ : jxw (y3 + 1) = y3 + 1 := jxw_id (by omega) (by omega)
  refine jt_grd (by omega) ?_
  refine jt_bI (sp_X11_close E d (jd_le hd rfl) (E.2 ((jxw (y3 + 1)).toNat)) a b hv) (fun r295_ a295_ b295_ h295_ => ?_)
  obtain ⟨hv295_, hf295_, rfl⟩ := h295_
  refine jt_eq (bq_law_912 E d y3 a295_ b) ?_
  refine jt_bif (Nat.ble_eq_true_of_le (by omega)) ?_
  refine jt_grd (by omega) ?_
  refine jt_bI (sp_X12_close E d (jd_le hd rfl) (E.2 ((jxw (y3 + 1)).toNat)) a295_ b hv295_ (OC_fr hg2 hf295_ rfl rfl (fun _ => rfl) (fun _ => rfl) (fun _ => rfl) (fun _ => rfl) (fun _ => rfl)) (FO_fr hg3 hf295_ rfl rfl (fun _ => rfl))) (fun r296_ a296_ b296_ h296_ => ?_)
  obtain ⟨hv296_, hf296_, rfl, hq296_0⟩ := h296_
  have h297_ := iv_get hv296_ (k := 4) (j := 6) (l := 0) (u := 40) rfl
  have h298_ : a296_ 4 6 = a295_ 4 6 := hf296_ 4 6 rfl
  have h299_ := iv_get hv295_ (k := 4) (j := 6) (l := 0) (u := 40) rfl
  have h300_ : a295_ 4 6 = a 4 6 := hf295_ 4 6 rfl
  have h301_ := iv_get hv296_ (k := 146) (j := 2) (l := 0) (u := 40) rfl
  have h302_ : a296_ 146 2 = a295_ 146 2 := hf296_ 146 2 rfl
  have h303_ := iv_get hv295_ (k := 146) (j := 2) (l := 0) (u := 40) rfl
  have h304_ : a295_ 146 2 = a 146 2 := hf295_ 146 2 rfl
  exact hnext a296_ b hv296_ (WFW_fr (WFW_fr hg0 hf295_ (fun _ => rfl) (fun _ => rfl)) hf296_ (fun _ => rfl) (fun _ => rfl)) (SV_fr (SV_fr hg1 hf295_ (fun _ => rfl) (fun _ => rfl)) hf296_ (fun _ => rfl) (fun _ => rfl)) hq296_0 (FO_fr (FO_fr hg3 hf295_ rfl rfl (fun _ => rfl)) hf296_ rfl rfl (fun _ => rfl)) (FW_fr (FW_fr hg4 hf295_ rfl (fun _ => rfl)) hf296_ rfl (fun _ => rfl)) (show a296_ 4 6 = a296_ 146 2 from by omega)
theorem lw_op925 (E : jxE) (d : Nat) (hd : Nat.ble 60 (d + 1) = true) (hL : E.1 ≤ 3072) (y3 : Int) (hy0 : 0 ≤ y3) (hy1 : y3 + 6 ≤ E.1) (hnext : ∀ (a b : Nat → Nat → Int) (hv : iv a) (hg0 : WFW a) (hg1 : SV a) (hg2 : OC a) (hg3 : FO a) (hg4 : FW a) (hr0 : a 4 6 = a 146 2), jt (jxX E d 305 1189 [some (.inr (.inr (.inl 3000))), some (.inr (.inr (.inl 0))), some (.inr (.inr (.inl 146))), some (.inl y3)] [] (jxSH, a, b)) (fun v _ _ => v = [.inl 1])) (a b : Nat → Nat → Int) (hv : iv a) (hg0 : WFW a) (hg1 : SV a) (hg2 : OC a) (hg3 : FO a) (hg4 : FW a) (hr0 : a 4 6 = a 146 2) : jt (jxX E d 305 925 [some (.inr (.inr (.inl 3000))), some (.inr (.inr (.inl 0))), some (.inr (.inr (.inl 146))), some (.inl y3)] [] (jxSH, a, b)) (fun v _ _ => v = [.inl 1]) := by
  refine jt_eq (bq_law_925 E d y3 a b) ?_
  have h305_ := iv_get hv (k := 4) (j := 6) (l := 0) (u := 40) rfl
  have h306_ := iv_get hv (k := 146) (j := 2) (l := 0) (u := 40) rfl
  refine jt_bif (Nat.ble_eq_true_of_le (by omega)) ?_
  have h307_ : jxw (y3 + 1) = y3 + 1 := jxw_id (by omega) (by omega)
  refine jt_grd (by omega) ?_
  refine jt_bif (Nat.ble_eq_true_of_le (by omega)) ?_
  have h308_ : jxw (y3 + 2) = y3 + 2 := jxw_id (by omega) (by omega)
  refine jt_grd (by omega) ?_
  refine jt_bI (sp_X11_drop E d (jd_le hd rfl) (E.2 ((jxw (y3 + 1)).toNat)) (E.2 ((jxw (y3 + 2)).toNat)) a b hv) (fun r309_ a309_ b309_ h309_ => ?_)
  obtain ⟨hv309_, hf309_, rfl⟩ := h309_
  refine jt_eq (bq_law_940 E d y3 a309_ b) ?_
  refine jt_bif (Nat.ble_eq_true_of_le (by omega)) ?_
  refine jt_grd (by omega) ?_
  refine jt_bif (Nat.ble_eq_true_of_le (by omega)) ?_
  refine jt_grd (by omega) ?_
  refine jt_bI (sp_X12_drop E d (jd_le hd rfl) (E.2 ((jxw (y3 + 1)).toNat)) (E.2 ((jxw (y3 + 2)).toNat)) a309_ b hv309_ (OC_fr hg2 hf309_ rfl rfl (fun _ => rfl) (fun _ => rfl) (fun _ => rfl) (fun _ => rfl) (fun _ => rfl))) (fun r310_ a310_ b310_ h310_ => ?_)
  obtain ⟨hv310_, hf310_, rfl, hq310_0⟩ := h310_
  have h311_ := iv_get hv310_ (k := 4) (j := 6) (l := 0) (u := 40) rfl
  have h312_ : a310_ 4 6 = a309_ 4 6 := hf310_ 4 6 rfl
  have h313_ := iv_get hv309_ (k := 4) (j := 6) (l := 0) (u := 40) rfl
  have h314_ : a309_ 4 6 = a 4 6 := hf309_ 4 6 rfl
  have h315_ := iv_get hv310_ (k := 146) (j := 2) (l := 0) (u := 40) rfl
  have h316_ : a310_ 146 2 = a309_ 146 2 := hf310_ 146 2 rfl
  have h317_ := iv_get hv309_ (k := 146) (j := 2) (l := 0) (u := 40) rfl
  have h318_ : a309_ 146 2 = a 146 2 := hf309_ 146 2 rfl
  exact hnext a310_ b hv310_ (WFW_fr (WFW_fr hg0 hf309_ (fun _ => rfl) (fun _ => rfl)) hf310_ (fun _ => rfl) (fun _ => rfl)) (SV_fr (SV_fr hg1 hf309_ (fun _ => rfl) (fun _ => rfl)) hf310_ (fun _ => rfl) (fun _ => rfl)) hq310_0 (FO_fr (FO_fr hg3 hf309_ rfl rfl (fun _ => rfl)) hf310_ rfl rfl (fun _ => rfl)) (FW_fr (FW_fr hg4 hf309_ rfl (fun _ => rfl)) hf310_ rfl (fun _ => rfl)) (show a310_ 4 6 = a310_ 146 2 from by omega)
theorem lw_op958 (E : jxE) (d : Nat) (hd : Nat.ble 60 (d + 1) = true) (hL : E.1 ≤ 3072) (y3 : Int) (hy0 : 0 ≤ y3) (hy1 : y3 + 6 ≤ E.1) (hnext : ∀ (a b : Nat → Nat → Int) (hv : iv a) (hg0 : WFW a) (hg1 : SV a) (hg2 : OC a) (hg3 : FO a) (hg4 : FW a) (hr0 : a 4 6 = a 146 2), jt (jxX E d 305 1189 [some (.inr (.inr (.inl 3000))), some (.inr (.inr (.inl 0))), some (.inr (.inr (.inl 146))), some (.inl y3)] [] (jxSH, a, b)) (fun v _ _ => v = [.inl 1])) (a b : Nat → Nat → Int) (hv : iv a) (hg0 : WFW a) (hg1 : SV a) (hg2 : OC a) (hg3 : FO a) (hg4 : FW a) (hr0 : a 4 6 = a 146 2) : jt (jxX E d 305 958 [some (.inr (.inr (.inl 3000))), some (.inr (.inr (.inl 0))), some (.inr (.inr (.inl 146))), some (.inl y3)] [] (jxSH, a, b)) (fun v _ _ => v = [.inl 1]) := by
  refine jt_eq (bq_law_958 E d y3 a b) ?_
  have h319_ := iv_get hv (k := 4) (j := 6) (l := 0) (u := 40) rfl
  have h320_ := iv_get hv (k := 146) (j := 2) (l := 0) (u := 40) rfl
  refine jt_bif (Nat.ble_eq_true_of_le (by omega)) ?_
  have h321_ : jxw (y3 + 1) = y3 + 1 := jxw_id (by omega) (by omega)
  refine jt_grd (by omega) ?_
  refine jt_bif (Nat.ble_eq_true_of_le (by omega)) ?_
  have h322_ : jxw (y3 + 2) = y3 + 2 := jxw_id (by omega) (by omega)
  refine jt_grd (by omega) ?_
  refine jt_eI (eq_X11_offers E d (jd_le hd rfl) (E.2 ((jxw (y3 + 1)).toNat)) (E.2 ((jxw (y3 + 2)).toNat)) a b) ?_
  refine jt_eq (bq_law_973 E d y3 a b) ?_
  refine jt_bif (Nat.ble_eq_true_of_le (by omega)) ?_
  refine jt_grd (by omega) ?_
  refine jt_bif (Nat.ble_eq_true_of_le (by omega)) ?_
  refine jt_grd (by omega) ?_
  refine jt_eI (eq_X12_offers E d (jd_le hd rfl) (E.2 ((jxw (y3 + 1)).toNat)) (E.2 ((jxw (y3 + 2)).toNat)) a b hv) ?_
  exact hnext a b hv hg0 hg1 hg2 hg3 hg4 (show a 4 6 = a 146 2 from by omega)
theorem lw_op991 (E : jxE) (d : Nat) (hd : Nat.ble 60 (d + 1) = true) (hL : E.1 ≤ 3072) (y3 : Int) (hy0 : 0 ≤ y3) (hy1 : y3 + 6 ≤ E.1) (hnext : ∀ (a b : Nat → Nat → Int) (hv : iv a) (hg0 : WFW a) (hg1 : SV a) (hg2 : OC a) (hg3 : FO a) (hg4 : FW a) (hr0 : a 4 6 = a 146 2), jt (jxX E d 305 1189 [some (.inr (.inr (.inl 3000))), some (.inr (.inr (.inl 0))), some (.inr (.inr (.inl 146))), some (.inl y3)] [] (jxSH, a, b)) (fun v _ _ => v = [.inl 1])) (a b : Nat → Nat → Int) (hv : iv a) (hg0 : WFW a) (hg1 : SV a) (hg2 : OC a) (hg3 : FO a) (hg4 : FW a) (hr0 : a 4 6 = a 146 2) : jt (jxX E d 305 991 [some (.inr (.inr (.inl 3000))), some (.inr (.inr (.inl 0))), some (.inr (.inr (.inl 146))), some (.inl y3)] [] (jxSH, a, b)) (fun v _ _ => v = [.inl 1]) := by
  refine jt_eq (bq_law_991 E d y3 a b) ?_
  have h323_ := iv_get hv (k := 4) (j := 6) (l := 0) (u := 40) rfl
  have h324_ := iv_get hv (k := 146) (j := 2) (l := 0) (u := 40) rfl
  refine jt_bif (Nat.ble_eq_true_of_le (by omega)) ?_
  have h325_ : jxw (y3 + 1) = y3 + 1 := jxw_id (by omega) (by omega)
  refine jt_grd (by omega) ?_
  refine jt_bI (sp_X11_rates E d (jd_le hd rfl) (E.2 ((jxw (y3 + 1)).toNat)) a b hv) (fun r326_ a326_ b326_ h326_ => ?_)
  obtain ⟨hv326_, hf326_, rfl⟩ := h326_
  refine jt_eq (bq_law_1001 E d y3 a326_ b) ?_
  refine jt_bif (Nat.ble_eq_true_of_le (by omega)) ?_
  refine jt_grd (by omega) ?_
  refine jt_bI (sp_X12_rates E d (jd_le hd rfl) (E.2 ((jxw (y3 + 1)).toNat)) a326_ b hv326_) (fun r327_ a327_ b327_ h327_ => ?_)
  obtain ⟨hv327_, hf327_, rfl⟩ := h327_
  have h328_ := iv_get hv327_ (k := 4) (j := 6) (l := 0) (u := 40) rfl
  have h329_ : a327_ 4 6 = a326_ 4 6 := hf327_ 4 6 rfl
  have h330_ := iv_get hv326_ (k := 4) (j := 6) (l := 0) (u := 40) rfl
  have h331_ : a326_ 4 6 = a 4 6 := hf326_ 4 6 rfl
  have h332_ := iv_get hv327_ (k := 146) (j := 2) (l := 0) (u := 40) rfl
  have h333_ : a327_ 146 2 = a326_ 146 2 := hf327_ 146 2 rfl
  have h334_ := iv_get hv326_ (k := 146) (j := 2) (l := 0) (u := 40) rfl
  have h335_ : a326_ 146 2 = a 146 2 := hf326_ 146 2 rfl
  exact hnext a327_ b hv327_ (WFW_fr (WFW_fr hg0 hf326_ (fun _ => rfl) (fun _ => rfl)) hf327_ (fun _ => rfl) (fun _ => rfl)) (SV_fr (SV_fr hg1 hf326_ (fun _ => rfl) (fun _ => rfl)) hf327_ (fun _ => rfl) (fun _ => rfl)) (OC_fr (OC_fr hg2 hf326_ rfl rfl (fun _ => rfl) (fun _ => rfl) (fun _ => rfl) (fun _ => rfl) (fun _ => rfl)) hf327_ rfl rfl (fun _ => rfl) (fun _ => rfl) (fun _ => rfl) (fun _ => rfl) (fun _ => rfl)) (FO_fr (FO_fr hg3 hf326_ rfl rfl (fun _ => rfl)) hf327_ rfl rfl (fun _ => rfl)) (FW_fr (FW_fr hg4 hf326_ rfl (fun _ => rfl)) hf327_ rfl (fun _ => rfl)) (show a327_ 4 6 = a327_ 146 2 from by omega)
theorem lw_op1014 (E : jxE) (d : Nat) (hd : Nat.ble 60 (d + 1) = true) (hL : E.1 ≤ 3072) (y3 : Int) (hy0 : 0 ≤ y3) (hy1 : y3 + 6 ≤ E.1) (hnext : ∀ (a b : Nat → Nat → Int) (hv : iv a) (hg0 : WFW a) (hg1 : SV a) (hg2 : OC a) (hg3 : FO a) (hg4 : FW a) (hr0 : a 4 6 = a 146 2), jt (jxX E d 305 1189 [some (.inr (.inr (.inl 3000))), some (.inr (.inr (.inl 0))), some (.inr (.inr (.inl 146))), some (.inl y3)] [] (jxSH, a, b)) (fun v _ _ => v = [.inl 1])) (a b : Nat → Nat → Int) (hv : iv a) (hg0 : WFW a) (hg1 : SV a) (hg2 : OC a) (hg3 : FO a) (hg4 : FW a) (hr0 : a 4 6 = a 146 2) : jt (jxX E d 305 1014 [some (.inr (.inr (.inl 3000))), some (.inr (.inr (.inl 0))), some (.inr (.inr (.inl 146))), some (.inl y3)] [] (jxSH, a, b)) (fun v _ _ => v = [.inl 1]) := by
  refine jt_eq (bq_law_1014 E d y3 a b) ?_
  have h336_ := iv_get hv (k := 4) (j := 6) (l := 0) (u := 40) rfl
  have h337_ := iv_get hv (k := 146) (j := 2) (l := 0) (u := 40) rfl
  refine jt_bif (Nat.ble_eq_true_of_le (by omega)) ?_
  have h338_ : jxw (y3 + 1) = y3 + 1 := jxw_id (by omega) (by omega)
  refine jt_grd (by omega) ?_
  refine jt_bif (Nat.ble_eq_true_of_le (by omega)) ?_
  have h339_ : jxw (y3 + 2) = y3 + 2 := jxw_id (by omega) (by omega)
  refine jt_grd (by omega) ?_
  refine jt_bif (Nat.ble_eq_true_of_le (by omega)) ?_
  have h340_ : jxw (y3 + 3) = y3 + 3 := jxw_id (by omega) (by omega)
  refine jt_grd (by omega) ?_
  refine jt_bif (Nat.ble_eq_true_of_le (by omega)) ?_
  have h341_ : jxw (y3 + 4) = y3 + 4 := jxw_id (by omega) (by omega)
  refine jt_grd (by omega) ?_
  refine jt_bI (sp_X11_price E d (jd_le hd rfl) (E.2 ((jxw (y3 + 1)).toNat)) (E.2 ((jxw (y3 + 2)).toNat)) (E.2 ((jxw (y3 + 3)).toNat)) (E.2 ((jxw (y3 + 4)).toNat)) a b hv) (fun r342_ a342_ b342_ h342_ => ?_)
  obtain ⟨rfl, rfl⟩ := h342_
  refine jt_eq (bq_law_1039 E d y3 a b) ?_
  refine jt_bif (Nat.ble_eq_true_of_le (by omega)) ?_
  refine jt_grd (by omega) ?_
  refine jt_bif (Nat.ble_eq_true_of_le (by omega)) ?_
  refine jt_grd (by omega) ?_
  refine jt_bif (Nat.ble_eq_true_of_le (by omega)) ?_
  refine jt_grd (by omega) ?_
  refine jt_bif (Nat.ble_eq_true_of_le (by omega)) ?_
  refine jt_grd (by omega) ?_
  refine jt_bI (sp_X12_price E d (jd_le hd rfl) (E.2 ((jxw (y3 + 1)).toNat)) (E.2 ((jxw (y3 + 2)).toNat)) (E.2 ((jxw (y3 + 3)).toNat)) (E.2 ((jxw (y3 + 4)).toNat)) a b hv) (fun r343_ a343_ b343_ h343_ => ?_)
  obtain ⟨rfl, rfl⟩ := h343_
  refine jt_eq (bq_law_1064 E d y3 a b) ?_
  exact hnext a b hv hg0 hg1 hg2 hg3 hg4 (show a 4 6 = a 146 2 from by omega)
theorem lw_op1067 (E : jxE) (d : Nat) (hd : Nat.ble 60 (d + 1) = true) (hL : E.1 ≤ 3072) (y3 : Int) (hy0 : 0 ≤ y3) (hy1 : y3 + 6 ≤ E.1) (hnext : ∀ (a b : Nat → Nat → Int) (hv : iv a) (hg0 : WFW a) (hg1 : SV a) (hg2 : OC a) (hg3 : FO a) (hg4 : FW a) (hr0 : a 4 6 = a 146 2), jt (jxX E d 305 1189 [some (.inr (.inr (.inl 3000))), some (.inr (.inr (.inl 0))), some (.inr (.inr (.inl 146))), some (.inl y3)] [] (jxSH, a, b)) (fun v _ _ => v = [.inl 1])) (a b : Nat → Nat → Int) (hv : iv a) (hg0 : WFW a) (hg1 : SV a) (hg2 : OC a) (hg3 : FO a) (hg4 : FW a) (hr0 : a 4 6 = a 146 2) : jt (jxX E d 305 1067 [some (.inr (.inr (.inl 3000))), some (.inr (.inr (.inl 0))), some (.inr (.inr (.inl 146))), some (.inl y3)] [] (jxSH, a, b)) (fun v _ _ => v = [.inl 1]) := by
  refine jt_eq (bq_law_1067 E d y3 a b) ?_
  have h344_ := iv_get hv (k := 4) (j := 6) (l := 0) (u := 40) rfl
  have h345_ := iv_get hv (k := 146) (j := 2) (l := 0) (u := 40) rfl
  refine jt_bif (Nat.ble_eq_true_of_le (by omega)) ?_
  have h346_ : jxw (y3 + 1) = y3 + 1 := jxw_id (by omega) (by omega)
  refine jt_grd (by omega) ?_
  refine jt_bif (Nat.ble_eq_true_of_le (by omega)) ?_
  have h347_ : jxw (y3 + 2) = y3 + 2 := jxw_id (by omega) (by omega)
  refine jt_grd (by omega) ?_
  refine jt_bif (Nat.ble_eq_true_of_le (by omega)) ?_
  have h348_ : jxw (y3 + 3) = y3 + 3 := jxw_id (by omega) (by omega)
  refine jt_grd (by omega) ?_
  refine jt_bI (sp_X11_stamps E d (jd_le hd rfl) (E.2 ((jxw (y3 + 1)).toNat)) (E.2 ((jxw (y3 + 2)).toNat)) (E.2 ((jxw (y3 + 3)).toNat)) a b hv) (fun r349_ a349_ b349_ h349_ => ?_)
  obtain ⟨hv349_, hf349_, rfl, hq349_0, hq349_1⟩ := h349_
  refine jt_eq (bq_law_1087 E d y3 a349_ b) ?_
  refine jt_bif (Nat.ble_eq_true_of_le (by omega)) ?_
  refine jt_grd (by omega) ?_
  refine jt_bif (Nat.ble_eq_true_of_le (by omega)) ?_
  refine jt_grd (by omega) ?_
  refine jt_bif (Nat.ble_eq_true_of_le (by omega)) ?_
  refine jt_grd (by omega) ?_
  refine jt_bI (sp_X12_stamps E d (jd_le hd rfl) (E.2 ((jxw (y3 + 1)).toNat)) (E.2 ((jxw (y3 + 2)).toNat)) (E.2 ((jxw (y3 + 3)).toNat)) a349_ b hv349_ (SV_fr hg1 hf349_ (fun _ => rfl) (fun _ => rfl))) (fun r350_ a350_ b350_ h350_ => ?_)
  obtain ⟨hv350_, hf350_, rfl, hq350_0, hq350_1, hq350_2⟩ := h350_
  refine jt_eq (bq_law_1107 E d y3 a350_ b) ?_
  have h351_ := iv_get hv350_ (k := 4) (j := 6) (l := 0) (u := 40) rfl
  have h352_ : a350_ 4 6 = a349_ 4 6 := hf350_ 4 6 rfl
  have h353_ := iv_get hv349_ (k := 4) (j := 6) (l := 0) (u := 40) rfl
  have h354_ : a349_ 4 6 = a 4 6 := hf349_ 4 6 rfl
  have h355_ := iv_get hv350_ (k := 146) (j := 2) (l := 0) (u := 40) rfl
  have h356_ : a350_ 146 2 = a349_ 146 2 := hf350_ 146 2 rfl
  have h357_ := iv_get hv349_ (k := 146) (j := 2) (l := 0) (u := 40) rfl
  have h358_ : a349_ 146 2 = a 146 2 := hf349_ 146 2 rfl
  exact hnext a350_ b hv350_ (WFW_fr (WFW_fr hg0 hf349_ (fun _ => rfl) (fun _ => rfl)) hf350_ (fun _ => rfl) (fun _ => rfl)) hq350_1 (OC_fr (OC_fr hg2 hf349_ rfl rfl (fun _ => rfl) (fun _ => rfl) (fun _ => rfl) (fun _ => rfl) (fun _ => rfl)) hf350_ rfl rfl (fun _ => rfl) (fun _ => rfl) (fun _ => rfl) (fun _ => rfl) (fun _ => rfl)) (FO_fr (FO_fr hg3 hf349_ rfl rfl (fun _ => rfl)) hf350_ rfl rfl (fun _ => rfl)) (FW_fr (FW_fr hg4 hf349_ rfl (fun _ => rfl)) hf350_ rfl (fun _ => rfl)) (show a350_ 4 6 = a350_ 146 2 from by omega)
theorem lw_op1110 (E : jxE) (d : Nat) (hd : Nat.ble 60 (d + 1) = true) (hL : E.1 ≤ 3072) (y3 : Int) (hy0 : 0 ≤ y3) (hy1 : y3 + 6 ≤ E.1) (hnext : ∀ (a b : Nat → Nat → Int) (hv : iv a) (hg0 : WFW a) (hg1 : SV a) (hg2 : OC a) (hg3 : FO a) (hg4 : FW a) (hr0 : a 4 6 = a 146 2), jt (jxX E d 305 1189 [some (.inr (.inr (.inl 3000))), some (.inr (.inr (.inl 0))), some (.inr (.inr (.inl 146))), some (.inl y3)] [] (jxSH, a, b)) (fun v _ _ => v = [.inl 1])) (a b : Nat → Nat → Int) (hv : iv a) (hg0 : WFW a) (hg1 : SV a) (hg2 : OC a) (hg3 : FO a) (hg4 : FW a) (hr0 : a 4 6 = a 146 2) : jt (jxX E d 305 1110 [some (.inr (.inr (.inl 3000))), some (.inr (.inr (.inl 0))), some (.inr (.inr (.inl 146))), some (.inl y3)] [] (jxSH, a, b)) (fun v _ _ => v = [.inl 1]) := by
  refine jt_eq (bq_law_1110 E d y3 a b) ?_
  have h359_ := iv_get hv (k := 4) (j := 6) (l := 0) (u := 40) rfl
  have h360_ := iv_get hv (k := 146) (j := 2) (l := 0) (u := 40) rfl
  refine jt_bif (Nat.ble_eq_true_of_le (by omega)) ?_
  have h361_ : jxw (y3 + 1) = y3 + 1 := jxw_id (by omega) (by omega)
  refine jt_grd (by omega) ?_
  refine jt_bif (Nat.ble_eq_true_of_le (by omega)) ?_
  have h362_ : jxw (y3 + 2) = y3 + 2 := jxw_id (by omega) (by omega)
  refine jt_grd (by omega) ?_
  refine jt_bI (sp_X11_pay E d (jd_le hd rfl) (E.2 ((jxw (y3 + 1)).toNat)) (E.2 ((jxw (y3 + 2)).toNat)) a b hv) (fun r363_ a363_ b363_ h363_ => ?_)
  obtain ⟨hv363_, hf363_⟩ := h363_
  refine jt_eq (bq_law_1125 E d y3 a363_ b363_) ?_
  refine jt_bif (Nat.ble_eq_true_of_le (by omega)) ?_
  refine jt_grd (by omega) ?_
  refine jt_bif (Nat.ble_eq_true_of_le (by omega)) ?_
  refine jt_grd (by omega) ?_
  refine jt_bI (sp_X12_pay E d (jd_le hd rfl) (E.2 ((jxw (y3 + 1)).toNat)) (E.2 ((jxw (y3 + 2)).toNat)) a363_ b363_ hv363_ (SV_fr hg1 hf363_ (fun _ => rfl) (fun _ => rfl))) (fun r364_ a364_ b364_ h364_ => ?_)
  obtain ⟨hv364_, hf364_, rfl, hq364_0⟩ := h364_
  have h365_ := iv_get hv364_ (k := 4) (j := 6) (l := 0) (u := 40) rfl
  have h366_ : a364_ 4 6 = a363_ 4 6 := hf364_ 4 6 rfl
  have h367_ := iv_get hv363_ (k := 4) (j := 6) (l := 0) (u := 40) rfl
  have h368_ : a363_ 4 6 = a 4 6 := hf363_ 4 6 rfl
  have h369_ := iv_get hv364_ (k := 146) (j := 2) (l := 0) (u := 40) rfl
  have h370_ : a364_ 146 2 = a363_ 146 2 := hf364_ 146 2 rfl
  have h371_ := iv_get hv363_ (k := 146) (j := 2) (l := 0) (u := 40) rfl
  have h372_ : a363_ 146 2 = a 146 2 := hf363_ 146 2 rfl
  exact hnext a364_ b363_ hv364_ (WFW_fr (WFW_fr hg0 hf363_ (fun _ => rfl) (fun _ => rfl)) hf364_ (fun _ => rfl) (fun _ => rfl)) hq364_0 (OC_fr (OC_fr hg2 hf363_ rfl rfl (fun _ => rfl) (fun _ => rfl) (fun _ => rfl) (fun _ => rfl) (fun _ => rfl)) hf364_ rfl rfl (fun _ => rfl) (fun _ => rfl) (fun _ => rfl) (fun _ => rfl) (fun _ => rfl)) (FO_fr (FO_fr hg3 hf363_ rfl rfl (fun _ => rfl)) hf364_ rfl rfl (fun _ => rfl)) (FW_fr (FW_fr hg4 hf363_ rfl (fun _ => rfl)) hf364_ rfl (fun _ => rfl)) (show a364_ 4 6 = a364_ 146 2 from by omega)
theorem lw_op1143 (E : jxE) (d : Nat) (hd : Nat.ble 60 (d + 1) = true) (hL : E.1 ≤ 3072) (y3 : Int) (hy0 : 0 ≤ y3) (hy1 : y3 + 6 ≤ E.1) (hnext : ∀ (a b : Nat → Nat → Int) (hv : iv a) (hg0 : WFW a) (hg1 : SV a) (hg2 : OC a) (hg3 : FO a) (hg4 : FW a) (hr0 : a 4 6 = a 146 2), jt (jxX E d 305 1189 [some (.inr (.inr (.inl 3000))), some (.inr (.inr (.inl 0))), some (.inr (.inr (.inl 146))), some (.inl y3)] [] (jxSH, a, b)) (fun v _ _ => v = [.inl 1])) (a b : Nat → Nat → Int) (hv : iv a) (hg0 : WFW a) (hg1 : SV a) (hg2 : OC a) (hg3 : FO a) (hg4 : FW a) (hr0 : a 4 6 = a 146 2) : jt (jxX E d 305 1143 [some (.inr (.inr (.inl 3000))), some (.inr (.inr (.inl 0))), some (.inr (.inr (.inl 146))), some (.inl y3)] [] (jxSH, a, b)) (fun v _ _ => v = [.inl 1]) := by
  refine jt_eq (bq_law_1143 E d y3 a b) ?_
  have h373_ := iv_get hv (k := 4) (j := 6) (l := 0) (u := 40) rfl
  have h374_ := iv_get hv (k := 146) (j := 2) (l := 0) (u := 40) rfl
  refine jt_bif (Nat.ble_eq_true_of_le (by omega)) ?_
  have h375_ : jxw (y3 + 1) = y3 + 1 := jxw_id (by omega) (by omega)
  refine jt_grd (by omega) ?_
  refine jt_eI (eq_X11_paid E d (jd_le hd rfl) (E.2 ((jxw (y3 + 1)).toNat)) a b) ?_
  refine jt_eq (bq_law_1153 E d y3 a b) ?_
  refine jt_bif (Nat.ble_eq_true_of_le (by omega)) ?_
  refine jt_grd (by omega) ?_
  refine jt_eI (eq_X12_paid E d (jd_le hd rfl) (E.2 ((jxw (y3 + 1)).toNat)) a b) ?_
  exact hnext a b hv hg0 hg1 hg2 hg3 hg4 (show a 4 6 = a 146 2 from by omega)
theorem lw_op1166 (E : jxE) (d : Nat) (hd : Nat.ble 60 (d + 1) = true) (hL : E.1 ≤ 3072) (y3 : Int) (hy0 : 0 ≤ y3) (hy1 : y3 + 6 ≤ E.1) (hnext : ∀ (a b : Nat → Nat → Int) (hv : iv a) (hg0 : WFW a) (hg1 : SV a) (hg2 : OC a) (hg3 : FO a) (hg4 : FW a) (hr0 : a 4 6 = a 146 2), jt (jxX E d 305 1189 [some (.inr (.inr (.inl 3000))), some (.inr (.inr (.inl 0))), some (.inr (.inr (.inl 146))), some (.inl y3)] [] (jxSH, a, b)) (fun v _ _ => v = [.inl 1])) (a b : Nat → Nat → Int) (hv : iv a) (hg0 : WFW a) (hg1 : SV a) (hg2 : OC a) (hg3 : FO a) (hg4 : FW a) (hr0 : a 4 6 = a 146 2) : jt (jxX E d 305 1166 [some (.inr (.inr (.inl 3000))), some (.inr (.inr (.inl 0))), some (.inr (.inr (.inl 146))), some (.inl y3)] [] (jxSH, a, b)) (fun v _ _ => v = [.inl 1]) := by
  refine jt_eq (bq_law_1166 E d y3 a b) ?_
  have h376_ := iv_get hv (k := 4) (j := 6) (l := 0) (u := 40) rfl
  have h377_ := iv_get hv (k := 146) (j := 2) (l := 0) (u := 40) rfl
  refine jt_bif (Nat.ble_eq_true_of_le (by omega)) ?_
  have h378_ : jxw (y3 + 1) = y3 + 1 := jxw_id (by omega) (by omega)
  refine jt_grd (by omega) ?_
  refine jt_bI (sp_X11_count E d (jd_le hd rfl) (E.2 ((jxw (y3 + 1)).toNat)) a b hv) (fun r379_ a379_ b379_ h379_ => ?_)
  obtain ⟨rfl, rfl⟩ := h379_
  refine jt_eq (bq_law_1176 E d y3 a b) ?_
  refine jt_bif (Nat.ble_eq_true_of_le (by omega)) ?_
  refine jt_grd (by omega) ?_
  refine jt_bI (sp_X12_count E d (jd_le hd rfl) (E.2 ((jxw (y3 + 1)).toNat)) a b hv) (fun r380_ a380_ b380_ h380_ => ?_)
  obtain ⟨rfl, rfl⟩ := h380_
  exact hnext a b hv hg0 hg1 hg2 hg3 hg4 (show a 4 6 = a 146 2 from by omega)
theorem lw_18 (E : jxE) (d : Nat) (hd : Nat.ble 60 (d + 1) = true) (hL : E.1 ≤ 3072) : ∀ n : Nat, ∀ (y3 : Int) (a b : Nat → Nat → Int), ((E.1 : Int) - y3).toNat ≤ n → 0 ≤ y3 → y3 ≤ 3078 → iv a → WFW a → SV a → OC a → FO a → FW a → a 4 6 = a 146 2 → jt (jxX E d 305 18 [some (.inr (.inr (.inl 3000))), some (.inr (.inr (.inl 0))), some (.inr (.inr (.inl 146))), some (.inl y3)] [] (jxSH, a, b)) (fun v _ _ => v = [.inl 1]) := by
  refine jx_ind fun n ih => ?_
  intro y3 a b hm hy0 hy9 hv hg0 hg1 hg2 hg3 hg4 hr0
  refine jt_eq (bq_law_18 E d y3 a b) ?_
  have hnext0 : y3 + 6 ≤ E.1 → ∀ (a b : Nat → Nat → Int) (hv : iv a) (hg0 : WFW a) (hg1 : SV a) (hg2 : OC a) (hg3 : FO a) (hg4 : FW a) (hr0 : a 4 6 = a 146 2), jt (jxX E d 305 1189 [some (.inr (.inr (.inl 3000))), some (.inr (.inr (.inl 0))), some (.inr (.inr (.inl 146))), some (.inl y3)] [] (jxSH, a, b)) (fun v _ _ => v = [.inl 1]) := fun hlt a b hv hg0 hg1 hg2 hg3 hg4 hr0 => by
    refine jt_eq (bq_law_1189 E d y3 a b) ?_
    have e : jxw (y3 + 6) = y3 + 6 := jxw_id (by omega) (by omega)
    rw [e]
    exact ih ((E.1 : Int) - (y3 + 6)).toNat (by omega) (y3 + 6) a b (Nat.le_refl _) (by omega) (by omega) hv hg0 hg1 hg2 hg3 hg4 hr0
  refine jt_bif (Nat.ble_eq_true_of_le (by omega)) ?_
  have e6 : jxw ((E.1 : Int) - 6) = (E.1 : Int) - 6 := jxw_id (by omega) (by omega)
  refine jt_ite (fun c1 => ?_) (fun c1 => ?_)
  · exact ⟨_, _, _, rfl, rfl⟩
  ·
    have hy1 : y3 + 6 ≤ E.1 := by omega
    have hnext := hnext0 hy1
    refine jt_bif (Nat.ble_eq_true_of_le (by omega)) ?_
    refine jt_grd (by omega) ?_
    have h381_ := jxand_r (E.2 (y3.toNat)) 63 (by decide) (by decide)
    refine jt_ite (fun c382_ => ?_) (fun c382_ => ?_)
    ·
      have h383_ := iv_get hv (k := 4) (j := 6) (l := 0) (u := 40) rfl
      have h384_ := iv_get hv (k := 146) (j := 2) (l := 0) (u := 40) rfl
      exact hnext a b hv hg0 hg1 hg2 hg3 hg4 (show a 4 6 = a 146 2 from by omega)
    ·
      refine jt_ite (fun c385_ => ?_) (fun c385_ => ?_)
      ·
        have h386_ := iv_get hv (k := 4) (j := 6) (l := 0) (u := 40) rfl
        have h387_ := iv_get hv (k := 146) (j := 2) (l := 0) (u := 40) rfl
        exact lw_op180 E d hd hL y3 hy0 (by omega) hnext a b hv hg0 hg1 hg2 hg3 hg4 (show a 4 6 = a 146 2 from by omega)
      ·
        refine jt_ite (fun c388_ => ?_) (fun c388_ => ?_)
        ·
          have h389_ := iv_get hv (k := 4) (j := 6) (l := 0) (u := 40) rfl
          have h390_ := iv_get hv (k := 146) (j := 2) (l := 0) (u := 40) rfl
          exact lw_op203 E d hd hL y3 hy0 (by omega) hnext a b hv hg0 hg1 hg2 hg3 hg4 (show a 4 6 = a 146 2 from by omega)
        ·
          refine jt_ite (fun c391_ => ?_) (fun c391_ => ?_)
          ·
            have h392_ := iv_get hv (k := 4) (j := 6) (l := 0) (u := 40) rfl
            have h393_ := iv_get hv (k := 146) (j := 2) (l := 0) (u := 40) rfl
            exact lw_op246 E d hd hL y3 hy0 (by omega) hnext a b hv hg0 hg1 hg2 hg3 hg4 (show a 4 6 = a 146 2 from by omega)
          ·
            refine jt_ite (fun c394_ => ?_) (fun c394_ => ?_)
            ·
              have h395_ := iv_get hv (k := 4) (j := 6) (l := 0) (u := 40) rfl
              have h396_ := iv_get hv (k := 146) (j := 2) (l := 0) (u := 40) rfl
              exact lw_op289 E d hd hL y3 hy0 (by omega) hnext a b hv hg0 hg1 hg2 hg3 hg4 (show a 4 6 = a 146 2 from by omega)
            ·
              refine jt_ite (fun c397_ => ?_) (fun c397_ => ?_)
              ·
                have h398_ := iv_get hv (k := 4) (j := 6) (l := 0) (u := 40) rfl
                have h399_ := iv_get hv (k := 146) (j := 2) (l := 0) (u := 40) rfl
                exact lw_op312 E d hd hL y3 hy0 (by omega) hnext a b hv hg0 hg1 hg2 hg3 hg4 (show a 4 6 = a 146 2 from by omega)
              ·
                refine jt_ite (fun c400_ => ?_) (fun c400_ => ?_)
                ·
                  have h401_ := iv_get hv (k := 4) (j := 6) (l := 0) (u := 40) rfl
                  have h402_ := iv_get hv (k := 146) (j := 2) (l := 0) (u := 40) rfl
                  exact lw_op375 E d hd hL y3 hy0 (by omega) hnext a b hv hg0 hg1 hg2 hg3 hg4 (show a 4 6 = a 146 2 from by omega)
                ·
                  refine jt_ite (fun c403_ => ?_) (fun c403_ => ?_)
                  ·
                    have h404_ := iv_get hv (k := 4) (j := 6) (l := 0) (u := 40) rfl
                    have h405_ := iv_get hv (k := 146) (j := 2) (l := 0) (u := 40) rfl
                    exact lw_op398 E d hd hL y3 hy0 (by omega) hnext a b hv hg0 hg1 hg2 hg3 hg4 (show a 4 6 = a 146 2 from by omega)
                  ·
                    refine jt_ite (fun c406_ => ?_) (fun c406_ => ?_)
                    ·
                      have h407_ := iv_get hv (k := 4) (j := 6) (l := 0) (u := 40) rfl
                      have h408_ := iv_get hv (k := 146) (j := 2) (l := 0) (u := 40) rfl
                      exact lw_op421 E d hd hL y3 hy0 (by omega) hnext a b hv hg0 hg1 hg2 hg3 hg4 (show a 4 6 = a 146 2 from by omega)
                    ·
                      refine jt_ite (fun c409_ => ?_) (fun c409_ => ?_)
                      ·
                        have h410_ := iv_get hv (k := 4) (j := 6) (l := 0) (u := 40) rfl
                        have h411_ := iv_get hv (k := 146) (j := 2) (l := 0) (u := 40) rfl
                        exact lw_op454 E d hd hL y3 hy0 (by omega) hnext a b hv hg0 hg1 hg2 hg3 hg4 (show a 4 6 = a 146 2 from by omega)
                      ·
                        refine jt_ite (fun c412_ => ?_) (fun c412_ => ?_)
                        ·
                          have h413_ := iv_get hv (k := 4) (j := 6) (l := 0) (u := 40) rfl
                          have h414_ := iv_get hv (k := 146) (j := 2) (l := 0) (u := 40) rfl
                          exact lw_op467 E d hd hL y3 hy0 (by omega) hnext a b hv hg0 hg1 hg2 hg3 hg4 (show a 4 6 = a 146 2 from by omega)
                        ·
                          refine jt_ite (fun c415_ => ?_) (fun c415_ => ?_)
                          ·
                            have h416_ := iv_get hv (k := 4) (j := 6) (l := 0) (u := 40) rfl
                            have h417_ := iv_get hv (k := 146) (j := 2) (l := 0) (u := 40) rfl
                            exact lw_op490 E d hd hL y3 hy0 (by omega) hnext a b hv hg0 hg1 hg2 hg3 hg4 (show a 4 6 = a 146 2 from by omega)
                          ·
                            refine jt_ite (fun c418_ => ?_) (fun c418_ => ?_)
                            ·
                              have h419_ := iv_get hv (k := 4) (j := 6) (l := 0) (u := 40) rfl
                              have h420_ := iv_get hv (k := 146) (j := 2) (l := 0) (u := 40) rfl
                              exact lw_op523 E d hd hL y3 hy0 (by omega) hnext a b hv hg0 hg1 hg2 hg3 hg4 (show a 4 6 = a 146 2 from by omega)
                            ·
                              refine jt_ite (fun c421_ => ?_) (fun c421_ => ?_)
                              ·
                                have h422_ := iv_get hv (k := 4) (j := 6) (l := 0) (u := 40) rfl
                                have h423_ := iv_get hv (k := 146) (j := 2) (l := 0) (u := 40) rfl
                                exact lw_op546 E d hd hL y3 hy0 (by omega) hnext a b hv hg0 hg1 hg2 hg3 hg4 (show a 4 6 = a 146 2 from by omega)
                              ·
                                refine jt_ite (fun c424_ => ?_) (fun c424_ => ?_)
                                ·
                                  have h425_ := iv_get hv (k := 4) (j := 6) (l := 0) (u := 40) rfl
                                  have h426_ := iv_get hv (k := 146) (j := 2) (l := 0) (u := 40) rfl
                                  exact lw_op559 E d hd hL y3 hy0 (by omega) hnext a b hv hg0 hg1 hg2 hg3 hg4 (show a 4 6 = a 146 2 from by omega)
                                ·
                                  refine jt_ite (fun c427_ => ?_) (fun c427_ => ?_)
                                  ·
                                    have h428_ := iv_get hv (k := 4) (j := 6) (l := 0) (u := 40) rfl
                                    have h429_ := iv_get hv (k := 146) (j := 2) (l := 0) (u := 40) rfl
                                    exact lw_op592 E d hd hL y3 hy0 (by omega) hnext a b hv hg0 hg1 hg2 hg3 hg4 (show a 4 6 = a 146 2 from by omega)
                                  ·
                                    refine jt_ite (fun c430_ => ?_) (fun c430_ => ?_)
                                    ·
                                      have h431_ := iv_get hv (k := 4) (j := 6) (l := 0) (u := 40) rfl
                                      have h432_ := iv_get hv (k := 146) (j := 2) (l := 0) (u := 40) rfl
                                      exact lw_op615 E d hd hL y3 hy0 (by omega) hnext a b hv hg0 hg1 hg2 hg3 hg4 (show a 4 6 = a 146 2 from by omega)
                                    ·
                                      refine jt_ite (fun c433_ => ?_) (fun c433_ => ?_)
                                      ·
                                        have h434_ := iv_get hv (k := 4) (j := 6) (l := 0) (u := 40) rfl
                                        have h435_ := iv_get hv (k := 146) (j := 2) (l := 0) (u := 40) rfl
                                        exact lw_op648 E d hd hL y3 hy0 (by omega) hnext a b hv hg0 hg1 hg2 hg3 hg4 (show a 4 6 = a 146 2 from by omega)
                                      ·
                                        refine jt_ite (fun c436_ => ?_) (fun c436_ => ?_)
                                        ·
                                          have h437_ := iv_get hv (k := 4) (j := 6) (l := 0) (u := 40) rfl
                                          have h438_ := iv_get hv (k := 146) (j := 2) (l := 0) (u := 40) rfl
                                          exact lw_op691 E d hd hL y3 hy0 (by omega) hnext a b hv hg0 hg1 hg2 hg3 hg4 (show a 4 6 = a 146 2 from by omega)
                                        ·
                                          refine jt_ite (fun c439_ => ?_) (fun c439_ => ?_)
                                          ·
                                            have h440_ := iv_get hv (k := 4) (j := 6) (l := 0) (u := 40) rfl
                                            have h441_ := iv_get hv (k := 146) (j := 2) (l := 0) (u := 40) rfl
                                            exact lw_op724 E d hd hL y3 hy0 (by omega) hnext a b hv hg0 hg1 hg2 hg3 hg4 (show a 4 6 = a 146 2 from by omega)
                                          ·
                                            refine jt_ite (fun c442_ => ?_) (fun c442_ => ?_)
                                            ·
                                              have h443_ := iv_get hv (k := 4) (j := 6) (l := 0) (u := 40) rfl
                                              have h444_ := iv_get hv (k := 146) (j := 2) (l := 0) (u := 40) rfl
                                              exact lw_op747 E d hd hL y3 hy0 (by omega) hnext a b hv hg0 hg1 hg2 hg3 hg4 (show a 4 6 = a 146 2 from by omega)
                                            ·
                                              refine jt_ite (fun c445_ => ?_) (fun c445_ => ?_)
                                              ·
                                                have h446_ := iv_get hv (k := 4) (j := 6) (l := 0) (u := 40) rfl
                                                have h447_ := iv_get hv (k := 146) (j := 2) (l := 0) (u := 40) rfl
                                                exact lw_op790 E d hd hL y3 hy0 (by omega) hnext a b hv hg0 hg1 hg2 hg3 hg4 (show a 4 6 = a 146 2 from by omega)
                                              ·
                                                refine jt_ite (fun c448_ => ?_) (fun c448_ => ?_)
                                                ·
                                                  have h449_ := iv_get hv (k := 4) (j := 6) (l := 0) (u := 40) rfl
                                                  have h450_ := iv_get hv (k := 146) (j := 2) (l := 0) (u := 40) rfl
                                                  exact lw_op833 E d hd hL y3 hy0 (by omega) hnext a b hv hg0 hg1 hg2 hg3 hg4 (show a 4 6 = a 146 2 from by omega)
                                                ·
                                                  refine jt_ite (fun c451_ => ?_) (fun c451_ => ?_)
                                                  ·
                                                    have h452_ := iv_get hv (k := 4) (j := 6) (l := 0) (u := 40) rfl
                                                    have h453_ := iv_get hv (k := 146) (j := 2) (l := 0) (u := 40) rfl
                                                    exact lw_op856 E d hd hL y3 hy0 (by omega) hnext a b hv hg0 hg1 hg2 hg3 hg4 (show a 4 6 = a 146 2 from by omega)
                                                  ·
                                                    refine jt_ite (fun c454_ => ?_) (fun c454_ => ?_)
                                                    ·
                                                      have h455_ := iv_get hv (k := 4) (j := 6) (l := 0) (u := 40) rfl
                                                      have h456_ := iv_get hv (k := 146) (j := 2) (l := 0) (u := 40) rfl
                                                      exact lw_op869 E d hd hL y3 hy0 (by omega) hnext a b hv hg0 hg1 hg2 hg3 hg4 (show a 4 6 = a 146 2 from by omega)
                                                    ·
                                                      refine jt_ite (fun c457_ => ?_) (fun c457_ => ?_)
                                                      ·
                                                        have h458_ := iv_get hv (k := 4) (j := 6) (l := 0) (u := 40) rfl
                                                        have h459_ := iv_get hv (k := 146) (j := 2) (l := 0) (u := 40) rfl
                                                        exact lw_op902 E d hd hL y3 hy0 (by omega) hnext a b hv hg0 hg1 hg2 hg3 hg4 (show a 4 6 = a 146 2 from by omega)
                                                      ·
                                                        refine jt_ite (fun c460_ => ?_) (fun c460_ => ?_)
                                                        ·
                                                          have h461_ := iv_get hv (k := 4) (j := 6) (l := 0) (u := 40) rfl
                                                          have h462_ := iv_get hv (k := 146) (j := 2) (l := 0) (u := 40) rfl
                                                          exact lw_op925 E d hd hL y3 hy0 (by omega) hnext a b hv hg0 hg1 hg2 hg3 hg4 (show a 4 6 = a 146 2 from by omega)
                                                        ·
                                                          refine jt_ite (fun c463_ => ?_) (fun c463_ => ?_)
                                                          ·
                                                            have h464_ := iv_get hv (k := 4) (j := 6) (l := 0) (u := 40) rfl
                                                            have h465_ := iv_get hv (k := 146) (j := 2) (l := 0) (u := 40) rfl
                                                            exact lw_op958 E d hd hL y3 hy0 (by omega) hnext a b hv hg0 hg1 hg2 hg3 hg4 (show a 4 6 = a 146 2 from by omega)
                                                          ·
                                                            refine jt_ite (fun c466_ => ?_) (fun c466_ => ?_)
                                                            ·
                                                              have h467_ := iv_get hv (k := 4) (j := 6) (l := 0) (u := 40) rfl
                                                              have h468_ := iv_get hv (k := 146) (j := 2) (l := 0) (u := 40) rfl
                                                              exact lw_op991 E d hd hL y3 hy0 (by omega) hnext a b hv hg0 hg1 hg2 hg3 hg4 (show a 4 6 = a 146 2 from by omega)
                                                            ·
                                                              refine jt_ite (fun c469_ => ?_) (fun c469_ => ?_)
                                                              ·
                                                                have h470_ := iv_get hv (k := 4) (j := 6) (l := 0) (u := 40) rfl
                                                                have h471_ := iv_get hv (k := 146) (j := 2) (l := 0) (u := 40) rfl
                                                                exact lw_op1014 E d hd hL y3 hy0 (by omega) hnext a b hv hg0 hg1 hg2 hg3 hg4 (show a 4 6 = a 146 2 from by omega)
                                                              ·
                                                                refine jt_ite (fun c472_ => ?_) (fun c472_ => ?_)
                                                                ·
                                                                  have h473_ := iv_get hv (k := 4) (j := 6) (l := 0) (u := 40) rfl
                                                                  have h474_ := iv_get hv (k := 146) (j := 2) (l := 0) (u := 40) rfl
                                                                  exact lw_op1067 E d hd hL y3 hy0 (by omega) hnext a b hv hg0 hg1 hg2 hg3 hg4 (show a 4 6 = a 146 2 from by omega)
                                                                ·
                                                                  refine jt_ite (fun c475_ => ?_) (fun c475_ => ?_)
                                                                  ·
                                                                    have h476_ := iv_get hv (k := 4) (j := 6) (l := 0) (u := 40) rfl
                                                                    have h477_ := iv_get hv (k := 146) (j := 2) (l := 0) (u := 40) rfl
                                                                    exact lw_op1110 E d hd hL y3 hy0 (by omega) hnext a b hv hg0 hg1 hg2 hg3 hg4 (show a 4 6 = a 146 2 from by omega)
                                                                  ·
                                                                    refine jt_ite (fun c478_ => ?_) (fun c478_ => ?_)
                                                                    ·
                                                                      have h479_ := iv_get hv (k := 4) (j := 6) (l := 0) (u := 40) rfl
                                                                      have h480_ := iv_get hv (k := 146) (j := 2) (l := 0) (u := 40) rfl
                                                                      exact lw_op1143 E d hd hL y3 hy0 (by omega) hnext a b hv hg0 hg1 hg2 hg3 hg4 (show a 4 6 = a 146 2 from by omega)
                                                                    ·
                                                                      refine jt_ite (fun c481_ => ?_) (fun c481_ => ?_)
                                                                      ·
                                                                        have h482_ := iv_get hv (k := 4) (j := 6) (l := 0) (u := 40) rfl
                                                                        have h483_ := iv_get hv (k := 146) (j := 2) (l := 0) (u := 40) rfl
                                                                        exact lw_op1166 E d hd hL y3 hy0 (by omega) hnext a b hv hg0 hg1 hg2 hg3 hg4 (show a 4 6 = a 146 2 from by omega)
                                                                      ·
                                                                        exact absurd (by omega : False) id
