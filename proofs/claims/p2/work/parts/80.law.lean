theorem jt_bif {c : Bool} {X Y : Option jxR} {Q : List jxV → (Nat → Nat → Int) → (Nat → Nat → Int) → Prop} (hc : c = true) (h : jt X Q) : jt (bif c then X else Y) Q := by
  rw [hc]; exact h
theorem lw_op180 (E : jxE) (d : Nat) (hd : Nat.ble 60 (d + 1) = true) (hL : E.1 ≤ 3072) (y3 : Int) (hy0 : 0 ≤ y3) (hy1 : y3 + 6 ≤ E.1) (hnext : ∀ (a b : Nat → Nat → Int) (hv : iv a) (hg0 : WFW a) (hg1 : SV a) (hg2 : OC a) (hg3 : FO a) (hg4 : FW a) (hr0 : a 0 0 = a 146 0), jt (jxX E d 305 1189 [some (.inr (.inr (.inl 3000))), some (.inr (.inr (.inl 0))), some (.inr (.inr (.inl 146))), some (.inl y3)] [] (jxSH, a, b)) (fun v _ _ => v = [.inl 1])) (a b : Nat → Nat → Int) (hv : iv a) (hg0 : WFW a) (hg1 : SV a) (hg2 : OC a) (hg3 : FO a) (hg4 : FW a) (hr0 : a 0 0 = a 146 0) : jt (jxX E d 305 180 [some (.inr (.inr (.inl 3000))), some (.inr (.inr (.inl 0))), some (.inr (.inr (.inl 146))), some (.inl y3)] [] (jxSH, a, b)) (fun v _ _ => v = [.inl 1]) := by
  refine jt_eq (bq_law_180 E d y3 a b) ?_
  have h1_ := iv_get hv (k := 0) (j := 0) (l := 0) (u := 1999) rfl
  have h2_ := iv_get hv (k := 146) (j := 0) (l := 0) (u := 1999) rfl
  refine jt_bif (Nat.ble_eq_true_of_le (by omega)) ?_
  have h3_ : jxw (y3 + 1) = y3 + 1 := jxw_id (by omega) (by omega)
  refine jt_grd (by omega) ?_
  refine jt_bI (sp_X11_clock E d (jd_le hd rfl) (E.2 ((jxw (y3 + 1)).toNat)) a b hv) (fun r4_ a4_ b4_ h4_ => ?_)
  obtain ⟨hv4_, hf4_, rfl, hq4_0, hq4_1⟩ := h4_
  have h5_ := iv_get hv4_ (k := 0) (j := 0) (l := 0) (u := 1999) rfl
  refine jt_bif (Nat.ble_eq_true_of_le (by omega)) ?_
  refine jt_grd (by omega) ?_
  refine jt_bI (sp_X12_clock E d (jd_le hd rfl) (E.2 ((jxw (y3 + 1)).toNat)) a4_ b hv4_) (fun r6_ a6_ b6_ h6_ => ?_)
  obtain ⟨hv6_, hf6_, rfl, hq6_0, hq6_1⟩ := h6_
  have h7_ := iv_get hv4_ (k := 146) (j := 0) (l := 0) (u := 1999) rfl
  have h8_ : a4_ 146 0 = a 146 0 := hf4_ 146 0 rfl
  have h9_ := iv_get hv6_ (k := 146) (j := 0) (l := 0) (u := 1999) rfl
  refine jt_ite (fun c10_ => ?_) (fun c10_ => ?_)
  ·
    have h11_ := iv_get hv6_ (k := 0) (j := 0) (l := 0) (u := 1999) rfl
    have h12_ : a6_ 0 0 = a4_ 0 0 := hf6_ 0 0 rfl
    exact hnext a6_ b hv6_ (WFW_fr (WFW_fr hg0 hf4_ (fun _ => rfl) (fun _ => rfl)) hf6_ (fun _ => rfl) (fun _ => rfl)) (SV_fr (SV_fr hg1 hf4_ (fun _ => rfl) (fun _ => rfl)) hf6_ (fun _ => rfl) (fun _ => rfl)) (OC_fr (OC_fr hg2 hf4_ rfl rfl (fun _ => rfl) (fun _ => rfl) (fun _ => rfl) (fun _ => rfl) (fun _ => rfl)) hf6_ rfl rfl (fun _ => rfl) (fun _ => rfl) (fun _ => rfl) (fun _ => rfl) (fun _ => rfl)) (FO_fr (FO_fr hg3 hf4_ rfl rfl (fun _ => rfl)) hf6_ rfl rfl (fun _ => rfl)) (FW_fr (FW_fr hg4 hf4_ rfl (fun _ => rfl)) hf6_ rfl (fun _ => rfl)) (show a6_ 0 0 = a6_ 146 0 from by omega)
  ·
    exact absurd (by omega : False) id
theorem lw_op203 (E : jxE) (d : Nat) (hd : Nat.ble 60 (d + 1) = true) (hL : E.1 ≤ 3072) (y3 : Int) (hy0 : 0 ≤ y3) (hy1 : y3 + 6 ≤ E.1) (hnext : ∀ (a b : Nat → Nat → Int) (hv : iv a) (hg0 : WFW a) (hg1 : SV a) (hg2 : OC a) (hg3 : FO a) (hg4 : FW a) (hr0 : a 0 0 = a 146 0), jt (jxX E d 305 1189 [some (.inr (.inr (.inl 3000))), some (.inr (.inr (.inl 0))), some (.inr (.inr (.inl 146))), some (.inl y3)] [] (jxSH, a, b)) (fun v _ _ => v = [.inl 1])) (a b : Nat → Nat → Int) (hv : iv a) (hg0 : WFW a) (hg1 : SV a) (hg2 : OC a) (hg3 : FO a) (hg4 : FW a) (hr0 : a 0 0 = a 146 0) : jt (jxX E d 305 203 [some (.inr (.inr (.inl 3000))), some (.inr (.inr (.inl 0))), some (.inr (.inr (.inl 146))), some (.inl y3)] [] (jxSH, a, b)) (fun v _ _ => v = [.inl 1]) := by
  refine jt_eq (bq_law_203 E d y3 a b) ?_
  have h13_ := iv_get hv (k := 0) (j := 0) (l := 0) (u := 1999) rfl
  have h14_ := iv_get hv (k := 146) (j := 0) (l := 0) (u := 1999) rfl
  refine jt_bif (Nat.ble_eq_true_of_le (by omega)) ?_
  have h15_ : jxw (y3 + 1) = y3 + 1 := jxw_id (by omega) (by omega)
  refine jt_grd (by omega) ?_
  refine jt_bif (Nat.ble_eq_true_of_le (by omega)) ?_
  have h16_ : jxw (y3 + 2) = y3 + 2 := jxw_id (by omega) (by omega)
  refine jt_grd (by omega) ?_
  refine jt_bif (Nat.ble_eq_true_of_le (by omega)) ?_
  have h17_ : jxw (y3 + 3) = y3 + 3 := jxw_id (by omega) (by omega)
  refine jt_grd (by omega) ?_
  refine jt_bI (sp_X11_far E d (jd_le hd rfl) (E.2 ((jxw (y3 + 1)).toNat)) (E.2 ((jxw (y3 + 2)).toNat)) (E.2 ((jxw (y3 + 3)).toNat)) a b hv) (fun r18_ a18_ b18_ h18_ => ?_)
  obtain ⟨hv18_, hf18_, rfl⟩ := h18_
  refine jt_eq (bq_law_223 E d y3 a18_ b) ?_
  refine jt_bif (Nat.ble_eq_true_of_le (by omega)) ?_
  refine jt_grd (by omega) ?_
  refine jt_bif (Nat.ble_eq_true_of_le (by omega)) ?_
  refine jt_grd (by omega) ?_
  refine jt_bif (Nat.ble_eq_true_of_le (by omega)) ?_
  refine jt_grd (by omega) ?_
  refine jt_bI (sp_X12_far E d (jd_le hd rfl) (E.2 ((jxw (y3 + 1)).toNat)) (E.2 ((jxw (y3 + 2)).toNat)) (E.2 ((jxw (y3 + 3)).toNat)) a18_ b hv18_) (fun r19_ a19_ b19_ h19_ => ?_)
  obtain ⟨hv19_, hf19_, rfl⟩ := h19_
  refine jt_eq (bq_law_243 E d y3 a19_ b) ?_
  have h20_ := iv_get hv19_ (k := 0) (j := 0) (l := 0) (u := 1999) rfl
  have h21_ : a19_ 0 0 = a18_ 0 0 := hf19_ 0 0 rfl
  have h22_ := iv_get hv18_ (k := 0) (j := 0) (l := 0) (u := 1999) rfl
  have h23_ : a18_ 0 0 = a 0 0 := hf18_ 0 0 rfl
  have h24_ := iv_get hv19_ (k := 146) (j := 0) (l := 0) (u := 1999) rfl
  have h25_ : a19_ 146 0 = a18_ 146 0 := hf19_ 146 0 rfl
  have h26_ := iv_get hv18_ (k := 146) (j := 0) (l := 0) (u := 1999) rfl
  have h27_ : a18_ 146 0 = a 146 0 := hf18_ 146 0 rfl
  exact hnext a19_ b hv19_ (WFW_fr (WFW_fr hg0 hf18_ (fun _ => rfl) (fun _ => rfl)) hf19_ (fun _ => rfl) (fun _ => rfl)) (SV_fr (SV_fr hg1 hf18_ (fun _ => rfl) (fun _ => rfl)) hf19_ (fun _ => rfl) (fun _ => rfl)) (OC_fr (OC_fr hg2 hf18_ rfl rfl (fun _ => rfl) (fun _ => rfl) (fun _ => rfl) (fun _ => rfl) (fun _ => rfl)) hf19_ rfl rfl (fun _ => rfl) (fun _ => rfl) (fun _ => rfl) (fun _ => rfl) (fun _ => rfl)) (FO_fr (FO_fr hg3 hf18_ rfl rfl (fun _ => rfl)) hf19_ rfl rfl (fun _ => rfl)) (FW_fr (FW_fr hg4 hf18_ rfl (fun _ => rfl)) hf19_ rfl (fun _ => rfl)) (show a19_ 0 0 = a19_ 146 0 from by omega)
theorem lw_op246 (E : jxE) (d : Nat) (hd : Nat.ble 60 (d + 1) = true) (hL : E.1 ≤ 3072) (y3 : Int) (hy0 : 0 ≤ y3) (hy1 : y3 + 6 ≤ E.1) (hnext : ∀ (a b : Nat → Nat → Int) (hv : iv a) (hg0 : WFW a) (hg1 : SV a) (hg2 : OC a) (hg3 : FO a) (hg4 : FW a) (hr0 : a 0 0 = a 146 0), jt (jxX E d 305 1189 [some (.inr (.inr (.inl 3000))), some (.inr (.inr (.inl 0))), some (.inr (.inr (.inl 146))), some (.inl y3)] [] (jxSH, a, b)) (fun v _ _ => v = [.inl 1])) (a b : Nat → Nat → Int) (hv : iv a) (hg0 : WFW a) (hg1 : SV a) (hg2 : OC a) (hg3 : FO a) (hg4 : FW a) (hr0 : a 0 0 = a 146 0) : jt (jxX E d 305 246 [some (.inr (.inr (.inl 3000))), some (.inr (.inr (.inl 0))), some (.inr (.inr (.inl 146))), some (.inl y3)] [] (jxSH, a, b)) (fun v _ _ => v = [.inl 1]) := by
  refine jt_eq (bq_law_246 E d y3 a b) ?_
  have h28_ := iv_get hv (k := 0) (j := 0) (l := 0) (u := 1999) rfl
  have h29_ := iv_get hv (k := 146) (j := 0) (l := 0) (u := 1999) rfl
  refine jt_bif (Nat.ble_eq_true_of_le (by omega)) ?_
  have h30_ : jxw (y3 + 1) = y3 + 1 := jxw_id (by omega) (by omega)
  refine jt_grd (by omega) ?_
  refine jt_bif (Nat.ble_eq_true_of_le (by omega)) ?_
  have h31_ : jxw (y3 + 2) = y3 + 2 := jxw_id (by omega) (by omega)
  refine jt_grd (by omega) ?_
  refine jt_bif (Nat.ble_eq_true_of_le (by omega)) ?_
  have h32_ : jxw (y3 + 3) = y3 + 3 := jxw_id (by omega) (by omega)
  refine jt_grd (by omega) ?_
  refine jt_bI (sp_X11_member E d (jd_le hd rfl) (E.2 ((jxw (y3 + 1)).toNat)) (E.2 ((jxw (y3 + 2)).toNat)) (E.2 ((jxw (y3 + 3)).toNat)) a b hv) (fun r33_ a33_ b33_ h33_ => ?_)
  obtain ⟨hv33_, hf33_, rfl⟩ := h33_
  refine jt_eq (bq_law_266 E d y3 a33_ b) ?_
  refine jt_bif (Nat.ble_eq_true_of_le (by omega)) ?_
  refine jt_grd (by omega) ?_
  refine jt_bif (Nat.ble_eq_true_of_le (by omega)) ?_
  refine jt_grd (by omega) ?_
  refine jt_bif (Nat.ble_eq_true_of_le (by omega)) ?_
  refine jt_grd (by omega) ?_
  refine jt_bI (sp_X12_member E d (jd_le hd rfl) (E.2 ((jxw (y3 + 1)).toNat)) (E.2 ((jxw (y3 + 2)).toNat)) (E.2 ((jxw (y3 + 3)).toNat)) a33_ b hv33_) (fun r34_ a34_ b34_ h34_ => ?_)
  obtain ⟨hv34_, hf34_, rfl⟩ := h34_
  refine jt_eq (bq_law_286 E d y3 a34_ b) ?_
  have h35_ := iv_get hv34_ (k := 0) (j := 0) (l := 0) (u := 1999) rfl
  have h36_ : a34_ 0 0 = a33_ 0 0 := hf34_ 0 0 rfl
  have h37_ := iv_get hv33_ (k := 0) (j := 0) (l := 0) (u := 1999) rfl
  have h38_ : a33_ 0 0 = a 0 0 := hf33_ 0 0 rfl
  have h39_ := iv_get hv34_ (k := 146) (j := 0) (l := 0) (u := 1999) rfl
  have h40_ : a34_ 146 0 = a33_ 146 0 := hf34_ 146 0 rfl
  have h41_ := iv_get hv33_ (k := 146) (j := 0) (l := 0) (u := 1999) rfl
  have h42_ : a33_ 146 0 = a 146 0 := hf33_ 146 0 rfl
  exact hnext a34_ b hv34_ (WFW_fr (WFW_fr hg0 hf33_ (fun _ => rfl) (fun _ => rfl)) hf34_ (fun _ => rfl) (fun _ => rfl)) (SV_fr (SV_fr hg1 hf33_ (fun _ => rfl) (fun _ => rfl)) hf34_ (fun _ => rfl) (fun _ => rfl)) (OC_fr (OC_fr hg2 hf33_ rfl rfl (fun _ => rfl) (fun _ => rfl) (fun _ => rfl) (fun _ => rfl) (fun _ => rfl)) hf34_ rfl rfl (fun _ => rfl) (fun _ => rfl) (fun _ => rfl) (fun _ => rfl) (fun _ => rfl)) (FO_fr (FO_fr hg3 hf33_ rfl rfl (fun _ => rfl)) hf34_ rfl rfl (fun _ => rfl)) (FW_fr (FW_fr hg4 hf33_ rfl (fun _ => rfl)) hf34_ rfl (fun _ => rfl)) (show a34_ 0 0 = a34_ 146 0 from by omega)
theorem lw_op289 (E : jxE) (d : Nat) (hd : Nat.ble 60 (d + 1) = true) (hL : E.1 ≤ 3072) (y3 : Int) (hy0 : 0 ≤ y3) (hy1 : y3 + 6 ≤ E.1) (hnext : ∀ (a b : Nat → Nat → Int) (hv : iv a) (hg0 : WFW a) (hg1 : SV a) (hg2 : OC a) (hg3 : FO a) (hg4 : FW a) (hr0 : a 0 0 = a 146 0), jt (jxX E d 305 1189 [some (.inr (.inr (.inl 3000))), some (.inr (.inr (.inl 0))), some (.inr (.inr (.inl 146))), some (.inl y3)] [] (jxSH, a, b)) (fun v _ _ => v = [.inl 1])) (a b : Nat → Nat → Int) (hv : iv a) (hg0 : WFW a) (hg1 : SV a) (hg2 : OC a) (hg3 : FO a) (hg4 : FW a) (hr0 : a 0 0 = a 146 0) : jt (jxX E d 305 289 [some (.inr (.inr (.inl 3000))), some (.inr (.inr (.inl 0))), some (.inr (.inr (.inl 146))), some (.inl y3)] [] (jxSH, a, b)) (fun v _ _ => v = [.inl 1]) := by
  refine jt_eq (bq_law_289 E d y3 a b) ?_
  have h43_ := iv_get hv (k := 0) (j := 0) (l := 0) (u := 1999) rfl
  have h44_ := iv_get hv (k := 146) (j := 0) (l := 0) (u := 1999) rfl
  refine jt_bif (Nat.ble_eq_true_of_le (by omega)) ?_
  have h45_ : jxw (y3 + 1) = y3 + 1 := jxw_id (by omega) (by omega)
  refine jt_grd (by omega) ?_
  refine jt_bI (sp_X11_leave E d (jd_le hd rfl) (E.2 ((jxw (y3 + 1)).toNat)) a b hv) (fun r46_ a46_ b46_ h46_ => ?_)
  obtain ⟨hv46_, hf46_, rfl⟩ := h46_
  refine jt_eq (bq_law_299 E d y3 a46_ b) ?_
  refine jt_bif (Nat.ble_eq_true_of_le (by omega)) ?_
  refine jt_grd (by omega) ?_
  refine jt_bI (sp_X12_leave E d (jd_le hd rfl) (E.2 ((jxw (y3 + 1)).toNat)) a46_ b hv46_ (OC_fr hg2 hf46_ rfl rfl (fun _ => rfl) (fun _ => rfl) (fun _ => rfl) (fun _ => rfl) (fun _ => rfl))) (fun r47_ a47_ b47_ h47_ => ?_)
  obtain ⟨hv47_, hf47_, rfl, hq47_0⟩ := h47_
  have h48_ := iv_get hv47_ (k := 0) (j := 0) (l := 0) (u := 1999) rfl
  have h49_ : a47_ 0 0 = a46_ 0 0 := hf47_ 0 0 rfl
  have h50_ := iv_get hv46_ (k := 0) (j := 0) (l := 0) (u := 1999) rfl
  have h51_ : a46_ 0 0 = a 0 0 := hf46_ 0 0 rfl
  have h52_ := iv_get hv47_ (k := 146) (j := 0) (l := 0) (u := 1999) rfl
  have h53_ : a47_ 146 0 = a46_ 146 0 := hf47_ 146 0 rfl
  have h54_ := iv_get hv46_ (k := 146) (j := 0) (l := 0) (u := 1999) rfl
  have h55_ : a46_ 146 0 = a 146 0 := hf46_ 146 0 rfl
  exact hnext a47_ b hv47_ (WFW_fr (WFW_fr hg0 hf46_ (fun _ => rfl) (fun _ => rfl)) hf47_ (fun _ => rfl) (fun _ => rfl)) (SV_fr (SV_fr hg1 hf46_ (fun _ => rfl) (fun _ => rfl)) hf47_ (fun _ => rfl) (fun _ => rfl)) hq47_0 (FO_fr (FO_fr hg3 hf46_ rfl rfl (fun _ => rfl)) hf47_ rfl rfl (fun _ => rfl)) (FW_fr (FW_fr hg4 hf46_ rfl (fun _ => rfl)) hf47_ rfl (fun _ => rfl)) (show a47_ 0 0 = a47_ 146 0 from by omega)
theorem lw_op312 (E : jxE) (d : Nat) (hd : Nat.ble 60 (d + 1) = true) (hL : E.1 ≤ 3072) (y3 : Int) (hy0 : 0 ≤ y3) (hy1 : y3 + 6 ≤ E.1) (hnext : ∀ (a b : Nat → Nat → Int) (hv : iv a) (hg0 : WFW a) (hg1 : SV a) (hg2 : OC a) (hg3 : FO a) (hg4 : FW a) (hr0 : a 0 0 = a 146 0), jt (jxX E d 305 1189 [some (.inr (.inr (.inl 3000))), some (.inr (.inr (.inl 0))), some (.inr (.inr (.inl 146))), some (.inl y3)] [] (jxSH, a, b)) (fun v _ _ => v = [.inl 1])) (a b : Nat → Nat → Int) (hv : iv a) (hg0 : WFW a) (hg1 : SV a) (hg2 : OC a) (hg3 : FO a) (hg4 : FW a) (hr0 : a 0 0 = a 146 0) : jt (jxX E d 305 312 [some (.inr (.inr (.inl 3000))), some (.inr (.inr (.inl 0))), some (.inr (.inr (.inl 146))), some (.inl y3)] [] (jxSH, a, b)) (fun v _ _ => v = [.inl 1]) := by
  refine jt_eq (bq_law_312 E d y3 a b) ?_
  have h56_ := iv_get hv (k := 0) (j := 0) (l := 0) (u := 1999) rfl
  have h57_ := iv_get hv (k := 146) (j := 0) (l := 0) (u := 1999) rfl
  refine jt_bif (Nat.ble_eq_true_of_le (by omega)) ?_
  have h58_ : jxw (y3 + 1) = y3 + 1 := jxw_id (by omega) (by omega)
  refine jt_grd (by omega) ?_
  refine jt_bif (Nat.ble_eq_true_of_le (by omega)) ?_
  have h59_ : jxw (y3 + 2) = y3 + 2 := jxw_id (by omega) (by omega)
  refine jt_grd (by omega) ?_
  refine jt_bif (Nat.ble_eq_true_of_le (by omega)) ?_
  have h60_ : jxw (y3 + 3) = y3 + 3 := jxw_id (by omega) (by omega)
  refine jt_grd (by omega) ?_
  refine jt_bif (Nat.ble_eq_true_of_le (by omega)) ?_
  have h61_ : jxw (y3 + 4) = y3 + 4 := jxw_id (by omega) (by omega)
  refine jt_grd (by omega) ?_
  refine jt_bif (Nat.ble_eq_true_of_le (by omega)) ?_
  have h62_ : jxw (y3 + 5) = y3 + 5 := jxw_id (by omega) (by omega)
  refine jt_grd (by omega) ?_
  refine jt_bI (sp_X11_feed E d (jd_le hd rfl) (E.2 ((jxw (y3 + 1)).toNat)) (E.2 ((jxw (y3 + 2)).toNat)) (E.2 ((jxw (y3 + 3)).toNat)) (E.2 ((jxw (y3 + 4)).toNat)) (E.2 ((jxw (y3 + 5)).toNat)) a b hv) (fun r63_ a63_ b63_ h63_ => ?_)
  obtain ⟨hv63_, hf63_, rfl⟩ := h63_
  refine jt_eq (bq_law_342 E d y3 a63_ b) ?_
  refine jt_bif (Nat.ble_eq_true_of_le (by omega)) ?_
  refine jt_grd (by omega) ?_
  refine jt_bif (Nat.ble_eq_true_of_le (by omega)) ?_
  refine jt_grd (by omega) ?_
  refine jt_bif (Nat.ble_eq_true_of_le (by omega)) ?_
  refine jt_grd (by omega) ?_
  refine jt_bif (Nat.ble_eq_true_of_le (by omega)) ?_
  refine jt_grd (by omega) ?_
  refine jt_bif (Nat.ble_eq_true_of_le (by omega)) ?_
  refine jt_grd (by omega) ?_
  refine jt_bI (sp_X12_feed E d (jd_le hd rfl) (E.2 ((jxw (y3 + 1)).toNat)) (E.2 ((jxw (y3 + 2)).toNat)) (E.2 ((jxw (y3 + 3)).toNat)) (E.2 ((jxw (y3 + 4)).toNat)) (E.2 ((jxw (y3 + 5)).toNat)) a63_ b hv63_) (fun r64_ a64_ b64_ h64_ => ?_)
  obtain ⟨hv64_, hf64_, rfl⟩ := h64_
  refine jt_eq (bq_law_372 E d y3 a64_ b) ?_
  have h65_ := iv_get hv64_ (k := 0) (j := 0) (l := 0) (u := 1999) rfl
  have h66_ : a64_ 0 0 = a63_ 0 0 := hf64_ 0 0 rfl
  have h67_ := iv_get hv63_ (k := 0) (j := 0) (l := 0) (u := 1999) rfl
  have h68_ : a63_ 0 0 = a 0 0 := hf63_ 0 0 rfl
  have h69_ := iv_get hv64_ (k := 146) (j := 0) (l := 0) (u := 1999) rfl
  have h70_ : a64_ 146 0 = a63_ 146 0 := hf64_ 146 0 rfl
  have h71_ := iv_get hv63_ (k := 146) (j := 0) (l := 0) (u := 1999) rfl
  have h72_ : a63_ 146 0 = a 146 0 := hf63_ 146 0 rfl
  exact hnext a64_ b hv64_ (WFW_fr (WFW_fr hg0 hf63_ (fun _ => rfl) (fun _ => rfl)) hf64_ (fun _ => rfl) (fun _ => rfl)) (SV_fr (SV_fr hg1 hf63_ (fun _ => rfl) (fun _ => rfl)) hf64_ (fun _ => rfl) (fun _ => rfl)) (OC_fr (OC_fr hg2 hf63_ rfl rfl (fun _ => rfl) (fun _ => rfl) (fun _ => rfl) (fun _ => rfl) (fun _ => rfl)) hf64_ rfl rfl (fun _ => rfl) (fun _ => rfl) (fun _ => rfl) (fun _ => rfl) (fun _ => rfl)) (FO_fr (FO_fr hg3 hf63_ rfl rfl (fun _ => rfl)) hf64_ rfl rfl (fun _ => rfl)) (FW_fr (FW_fr hg4 hf63_ rfl (fun _ => rfl)) hf64_ rfl (fun _ => rfl)) (show a64_ 0 0 = a64_ 146 0 from by omega)
theorem lw_op375 (E : jxE) (d : Nat) (hd : Nat.ble 60 (d + 1) = true) (hL : E.1 ≤ 3072) (y3 : Int) (hy0 : 0 ≤ y3) (hy1 : y3 + 6 ≤ E.1) (hnext : ∀ (a b : Nat → Nat → Int) (hv : iv a) (hg0 : WFW a) (hg1 : SV a) (hg2 : OC a) (hg3 : FO a) (hg4 : FW a) (hr0 : a 0 0 = a 146 0), jt (jxX E d 305 1189 [some (.inr (.inr (.inl 3000))), some (.inr (.inr (.inl 0))), some (.inr (.inr (.inl 146))), some (.inl y3)] [] (jxSH, a, b)) (fun v _ _ => v = [.inl 1])) (a b : Nat → Nat → Int) (hv : iv a) (hg0 : WFW a) (hg1 : SV a) (hg2 : OC a) (hg3 : FO a) (hg4 : FW a) (hr0 : a 0 0 = a 146 0) : jt (jxX E d 305 375 [some (.inr (.inr (.inl 3000))), some (.inr (.inr (.inl 0))), some (.inr (.inr (.inl 146))), some (.inl y3)] [] (jxSH, a, b)) (fun v _ _ => v = [.inl 1]) := by
  refine jt_eq (bq_law_375 E d y3 a b) ?_
  have h73_ := iv_get hv (k := 0) (j := 0) (l := 0) (u := 1999) rfl
  have h74_ := iv_get hv (k := 146) (j := 0) (l := 0) (u := 1999) rfl
  refine jt_bif (Nat.ble_eq_true_of_le (by omega)) ?_
  have h75_ : jxw (y3 + 1) = y3 + 1 := jxw_id (by omega) (by omega)
  refine jt_grd (by omega) ?_
  refine jt_bI (sp_X11_end E d (jd_le hd rfl) (E.2 ((jxw (y3 + 1)).toNat)) a b hv) (fun r76_ a76_ b76_ h76_ => ?_)
  obtain ⟨hv76_, hf76_, rfl⟩ := h76_
  refine jt_eq (bq_law_385 E d y3 a76_ b) ?_
  refine jt_bif (Nat.ble_eq_true_of_le (by omega)) ?_
  refine jt_grd (by omega) ?_
  refine jt_bI (sp_X12_end E d (jd_le hd rfl) (E.2 ((jxw (y3 + 1)).toNat)) a76_ b hv76_) (fun r77_ a77_ b77_ h77_ => ?_)
  obtain ⟨hv77_, hf77_, rfl⟩ := h77_
  have h78_ := iv_get hv77_ (k := 0) (j := 0) (l := 0) (u := 1999) rfl
  have h79_ : a77_ 0 0 = a76_ 0 0 := hf77_ 0 0 rfl
  have h80_ := iv_get hv76_ (k := 0) (j := 0) (l := 0) (u := 1999) rfl
  have h81_ : a76_ 0 0 = a 0 0 := hf76_ 0 0 rfl
  have h82_ := iv_get hv77_ (k := 146) (j := 0) (l := 0) (u := 1999) rfl
  have h83_ : a77_ 146 0 = a76_ 146 0 := hf77_ 146 0 rfl
  have h84_ := iv_get hv76_ (k := 146) (j := 0) (l := 0) (u := 1999) rfl
  have h85_ : a76_ 146 0 = a 146 0 := hf76_ 146 0 rfl
  exact hnext a77_ b hv77_ (WFW_fr (WFW_fr hg0 hf76_ (fun _ => rfl) (fun _ => rfl)) hf77_ (fun _ => rfl) (fun _ => rfl)) (SV_fr (SV_fr hg1 hf76_ (fun _ => rfl) (fun _ => rfl)) hf77_ (fun _ => rfl) (fun _ => rfl)) (OC_fr (OC_fr hg2 hf76_ rfl rfl (fun _ => rfl) (fun _ => rfl) (fun _ => rfl) (fun _ => rfl) (fun _ => rfl)) hf77_ rfl rfl (fun _ => rfl) (fun _ => rfl) (fun _ => rfl) (fun _ => rfl) (fun _ => rfl)) (FO_fr (FO_fr hg3 hf76_ rfl rfl (fun _ => rfl)) hf77_ rfl rfl (fun _ => rfl)) (FW_fr (FW_fr hg4 hf76_ rfl (fun _ => rfl)) hf77_ rfl (fun _ => rfl)) (show a77_ 0 0 = a77_ 146 0 from by omega)
theorem lw_op398 (E : jxE) (d : Nat) (hd : Nat.ble 60 (d + 1) = true) (hL : E.1 ≤ 3072) (y3 : Int) (hy0 : 0 ≤ y3) (hy1 : y3 + 6 ≤ E.1) (hnext : ∀ (a b : Nat → Nat → Int) (hv : iv a) (hg0 : WFW a) (hg1 : SV a) (hg2 : OC a) (hg3 : FO a) (hg4 : FW a) (hr0 : a 0 0 = a 146 0), jt (jxX E d 305 1189 [some (.inr (.inr (.inl 3000))), some (.inr (.inr (.inl 0))), some (.inr (.inr (.inl 146))), some (.inl y3)] [] (jxSH, a, b)) (fun v _ _ => v = [.inl 1])) (a b : Nat → Nat → Int) (hv : iv a) (hg0 : WFW a) (hg1 : SV a) (hg2 : OC a) (hg3 : FO a) (hg4 : FW a) (hr0 : a 0 0 = a 146 0) : jt (jxX E d 305 398 [some (.inr (.inr (.inl 3000))), some (.inr (.inr (.inl 0))), some (.inr (.inr (.inl 146))), some (.inl y3)] [] (jxSH, a, b)) (fun v _ _ => v = [.inl 1]) := by
  refine jt_eq (bq_law_398 E d y3 a b) ?_
  have h86_ := iv_get hv (k := 0) (j := 0) (l := 0) (u := 1999) rfl
  have h87_ := iv_get hv (k := 146) (j := 0) (l := 0) (u := 1999) rfl
  refine jt_bif (Nat.ble_eq_true_of_le (by omega)) ?_
  have h88_ : jxw (y3 + 1) = y3 + 1 := jxw_id (by omega) (by omega)
  refine jt_grd (by omega) ?_
  refine jt_bI (sp_X11_wish E d (jd_le hd rfl) (E.2 ((jxw (y3 + 1)).toNat)) a b hv) (fun r89_ a89_ b89_ h89_ => ?_)
  obtain ⟨hv89_, hf89_, rfl⟩ := h89_
  refine jt_eq (bq_law_408 E d y3 a89_ b) ?_
  refine jt_bif (Nat.ble_eq_true_of_le (by omega)) ?_
  refine jt_grd (by omega) ?_
  refine jt_bI (sp_X12_wish E d (jd_le hd rfl) (E.2 ((jxw (y3 + 1)).toNat)) a89_ b hv89_ (WFW_fr hg0 hf89_ (fun _ => rfl) (fun _ => rfl))) (fun r90_ a90_ b90_ h90_ => ?_)
  obtain ⟨hv90_, hf90_, rfl, hq90_0⟩ := h90_
  have h91_ := iv_get hv90_ (k := 0) (j := 0) (l := 0) (u := 1999) rfl
  have h92_ : a90_ 0 0 = a89_ 0 0 := hf90_ 0 0 rfl
  have h93_ := iv_get hv89_ (k := 0) (j := 0) (l := 0) (u := 1999) rfl
  have h94_ : a89_ 0 0 = a 0 0 := hf89_ 0 0 rfl
  have h95_ := iv_get hv90_ (k := 146) (j := 0) (l := 0) (u := 1999) rfl
  have h96_ : a90_ 146 0 = a89_ 146 0 := hf90_ 146 0 rfl
  have h97_ := iv_get hv89_ (k := 146) (j := 0) (l := 0) (u := 1999) rfl
  have h98_ : a89_ 146 0 = a 146 0 := hf89_ 146 0 rfl
  exact hnext a90_ b hv90_ hq90_0 (SV_fr (SV_fr hg1 hf89_ (fun _ => rfl) (fun _ => rfl)) hf90_ (fun _ => rfl) (fun _ => rfl)) (OC_fr (OC_fr hg2 hf89_ rfl rfl (fun _ => rfl) (fun _ => rfl) (fun _ => rfl) (fun _ => rfl) (fun _ => rfl)) hf90_ rfl rfl (fun _ => rfl) (fun _ => rfl) (fun _ => rfl) (fun _ => rfl) (fun _ => rfl)) (FO_fr (FO_fr hg3 hf89_ rfl rfl (fun _ => rfl)) hf90_ rfl rfl (fun _ => rfl)) (FW_fr (FW_fr hg4 hf89_ rfl (fun _ => rfl)) hf90_ rfl (fun _ => rfl)) (show a90_ 0 0 = a90_ 146 0 from by omega)
theorem lw_op421 (E : jxE) (d : Nat) (hd : Nat.ble 60 (d + 1) = true) (hL : E.1 ≤ 3072) (y3 : Int) (hy0 : 0 ≤ y3) (hy1 : y3 + 6 ≤ E.1) (hnext : ∀ (a b : Nat → Nat → Int) (hv : iv a) (hg0 : WFW a) (hg1 : SV a) (hg2 : OC a) (hg3 : FO a) (hg4 : FW a) (hr0 : a 0 0 = a 146 0), jt (jxX E d 305 1189 [some (.inr (.inr (.inl 3000))), some (.inr (.inr (.inl 0))), some (.inr (.inr (.inl 146))), some (.inl y3)] [] (jxSH, a, b)) (fun v _ _ => v = [.inl 1])) (a b : Nat → Nat → Int) (hv : iv a) (hg0 : WFW a) (hg1 : SV a) (hg2 : OC a) (hg3 : FO a) (hg4 : FW a) (hr0 : a 0 0 = a 146 0) : jt (jxX E d 305 421 [some (.inr (.inr (.inl 3000))), some (.inr (.inr (.inl 0))), some (.inr (.inr (.inl 146))), some (.inl y3)] [] (jxSH, a, b)) (fun v _ _ => v = [.inl 1]) := by
  refine jt_eq (bq_law_421 E d y3 a b) ?_
  have h99_ := iv_get hv (k := 0) (j := 0) (l := 0) (u := 1999) rfl
  have h100_ := iv_get hv (k := 146) (j := 0) (l := 0) (u := 1999) rfl
  refine jt_bif (Nat.ble_eq_true_of_le (by omega)) ?_
  have h101_ : jxw (y3 + 1) = y3 + 1 := jxw_id (by omega) (by omega)
  refine jt_grd (by omega) ?_
  refine jt_bif (Nat.ble_eq_true_of_le (by omega)) ?_
  have h102_ : jxw (y3 + 2) = y3 + 2 := jxw_id (by omega) (by omega)
  refine jt_grd (by omega) ?_
  refine jt_bI (sp_X11_meets E d (jd_le hd rfl) (E.2 ((jxw (y3 + 1)).toNat)) (E.2 ((jxw (y3 + 2)).toNat)) a b hv) (fun r103_ a103_ b103_ h103_ => ?_)
  obtain ⟨rfl, rfl⟩ := h103_
  refine jt_eq (bq_law_436 E d y3 a b) ?_
  refine jt_bif (Nat.ble_eq_true_of_le (by omega)) ?_
  refine jt_grd (by omega) ?_
  refine jt_bif (Nat.ble_eq_true_of_le (by omega)) ?_
  refine jt_grd (by omega) ?_
  refine jt_bI (sp_X12_meets E d (jd_le hd rfl) (E.2 ((jxw (y3 + 1)).toNat)) (E.2 ((jxw (y3 + 2)).toNat)) a b hv hg0) (fun r104_ a104_ b104_ h104_ => ?_)
  obtain ⟨hv104_, hf104_, rfl⟩ := h104_
  have h105_ := iv_get hv104_ (k := 0) (j := 0) (l := 0) (u := 1999) rfl
  have h106_ : a104_ 0 0 = a 0 0 := hf104_ 0 0 rfl
  have h107_ := iv_get hv104_ (k := 146) (j := 0) (l := 0) (u := 1999) rfl
  have h108_ : a104_ 146 0 = a 146 0 := hf104_ 146 0 rfl
  exact hnext a104_ b hv104_ (WFW_fr hg0 hf104_ (fun _ => rfl) (fun _ => rfl)) (SV_fr hg1 hf104_ (fun _ => rfl) (fun _ => rfl)) (OC_fr hg2 hf104_ rfl rfl (fun _ => rfl) (fun _ => rfl) (fun _ => rfl) (fun _ => rfl) (fun _ => rfl)) (FO_fr hg3 hf104_ rfl rfl (fun _ => rfl)) (FW_fr hg4 hf104_ rfl (fun _ => rfl)) (show a104_ 0 0 = a104_ 146 0 from by omega)
theorem lw_op454 (E : jxE) (d : Nat) (hd : Nat.ble 60 (d + 1) = true) (hL : E.1 ≤ 3072) (y3 : Int) (hy0 : 0 ≤ y3) (hy1 : y3 + 6 ≤ E.1) (hnext : ∀ (a b : Nat → Nat → Int) (hv : iv a) (hg0 : WFW a) (hg1 : SV a) (hg2 : OC a) (hg3 : FO a) (hg4 : FW a) (hr0 : a 0 0 = a 146 0), jt (jxX E d 305 1189 [some (.inr (.inr (.inl 3000))), some (.inr (.inr (.inl 0))), some (.inr (.inr (.inl 146))), some (.inl y3)] [] (jxSH, a, b)) (fun v _ _ => v = [.inl 1])) (a b : Nat → Nat → Int) (hv : iv a) (hg0 : WFW a) (hg1 : SV a) (hg2 : OC a) (hg3 : FO a) (hg4 : FW a) (hr0 : a 0 0 = a 146 0) : jt (jxX E d 305 454 [some (.inr (.inr (.inl 3000))), some (.inr (.inr (.inl 0))), some (.inr (.inr (.inl 146))), some (.inl y3)] [] (jxSH, a, b)) (fun v _ _ => v = [.inl 1]) := by
  refine jt_eq (bq_law_454 E d y3 a b) ?_
  have h109_ := iv_get hv (k := 0) (j := 0) (l := 0) (u := 1999) rfl
  have h110_ := iv_get hv (k := 146) (j := 0) (l := 0) (u := 1999) rfl
  refine jt_bI (sp_X11_rules E d (jd_le hd rfl) a b hv) (fun r111_ a111_ b111_ h111_ => ?_)
  obtain ⟨hv111_, hf111_, rfl⟩ := h111_
  refine jt_eq (bq_law_459 E d y3 a111_ b) ?_
  refine jt_bI (sp_X12_rules E d (jd_le hd rfl) a111_ b hv111_) (fun r112_ a112_ b112_ h112_ => ?_)
  obtain ⟨hv112_, hf112_, rfl⟩ := h112_
  have h113_ := iv_get hv112_ (k := 0) (j := 0) (l := 0) (u := 1999) rfl
  have h114_ : a112_ 0 0 = a111_ 0 0 := hf112_ 0 0 rfl
  have h115_ := iv_get hv111_ (k := 0) (j := 0) (l := 0) (u := 1999) rfl
  have h116_ : a111_ 0 0 = a 0 0 := hf111_ 0 0 rfl
  have h117_ := iv_get hv112_ (k := 146) (j := 0) (l := 0) (u := 1999) rfl
  have h118_ : a112_ 146 0 = a111_ 146 0 := hf112_ 146 0 rfl
  have h119_ := iv_get hv111_ (k := 146) (j := 0) (l := 0) (u := 1999) rfl
  have h120_ : a111_ 146 0 = a 146 0 := hf111_ 146 0 rfl
  exact hnext a112_ b hv112_ (WFW_fr (WFW_fr hg0 hf111_ (fun _ => rfl) (fun _ => rfl)) hf112_ (fun _ => rfl) (fun _ => rfl)) (SV_fr (SV_fr hg1 hf111_ (fun _ => rfl) (fun _ => rfl)) hf112_ (fun _ => rfl) (fun _ => rfl)) (OC_fr (OC_fr hg2 hf111_ rfl rfl (fun _ => rfl) (fun _ => rfl) (fun _ => rfl) (fun _ => rfl) (fun _ => rfl)) hf112_ rfl rfl (fun _ => rfl) (fun _ => rfl) (fun _ => rfl) (fun _ => rfl) (fun _ => rfl)) (FO_fr (FO_fr hg3 hf111_ rfl rfl (fun _ => rfl)) hf112_ rfl rfl (fun _ => rfl)) (FW_fr (FW_fr hg4 hf111_ rfl (fun _ => rfl)) hf112_ rfl (fun _ => rfl)) (show a112_ 0 0 = a112_ 146 0 from by omega)
theorem lw_op467 (E : jxE) (d : Nat) (hd : Nat.ble 60 (d + 1) = true) (hL : E.1 ≤ 3072) (y3 : Int) (hy0 : 0 ≤ y3) (hy1 : y3 + 6 ≤ E.1) (hnext : ∀ (a b : Nat → Nat → Int) (hv : iv a) (hg0 : WFW a) (hg1 : SV a) (hg2 : OC a) (hg3 : FO a) (hg4 : FW a) (hr0 : a 0 0 = a 146 0), jt (jxX E d 305 1189 [some (.inr (.inr (.inl 3000))), some (.inr (.inr (.inl 0))), some (.inr (.inr (.inl 146))), some (.inl y3)] [] (jxSH, a, b)) (fun v _ _ => v = [.inl 1])) (a b : Nat → Nat → Int) (hv : iv a) (hg0 : WFW a) (hg1 : SV a) (hg2 : OC a) (hg3 : FO a) (hg4 : FW a) (hr0 : a 0 0 = a 146 0) : jt (jxX E d 305 467 [some (.inr (.inr (.inl 3000))), some (.inr (.inr (.inl 0))), some (.inr (.inr (.inl 146))), some (.inl y3)] [] (jxSH, a, b)) (fun v _ _ => v = [.inl 1]) := by
  refine jt_eq (bq_law_467 E d y3 a b) ?_
  have h121_ := iv_get hv (k := 0) (j := 0) (l := 0) (u := 1999) rfl
  have h122_ := iv_get hv (k := 146) (j := 0) (l := 0) (u := 1999) rfl
  refine jt_bif (Nat.ble_eq_true_of_le (by omega)) ?_
  have h123_ : jxw (y3 + 1) = y3 + 1 := jxw_id (by omega) (by omega)
  refine jt_grd (by omega) ?_
  refine jt_bI (sp_X11_ask E d (jd_le hd rfl) (E.2 ((jxw (y3 + 1)).toNat)) a b hv) (fun r124_ a124_ b124_ h124_ => ?_)
  obtain ⟨hv124_, hf124_, rfl⟩ := h124_
  refine jt_eq (bq_law_477 E d y3 a124_ b) ?_
  refine jt_bif (Nat.ble_eq_true_of_le (by omega)) ?_
  refine jt_grd (by omega) ?_
  refine jt_bI (sp_X12_ask E d (jd_le hd rfl) (E.2 ((jxw (y3 + 1)).toNat)) a124_ b hv124_ (WFW_fr hg0 hf124_ (fun _ => rfl) (fun _ => rfl)) (OC_fr hg2 hf124_ rfl rfl (fun _ => rfl) (fun _ => rfl) (fun _ => rfl) (fun _ => rfl) (fun _ => rfl))) (fun r125_ a125_ b125_ h125_ => ?_)
  obtain ⟨hv125_, hf125_, rfl, hq125_0⟩ := h125_
  have h126_ := iv_get hv125_ (k := 0) (j := 0) (l := 0) (u := 1999) rfl
  have h127_ : a125_ 0 0 = a124_ 0 0 := hf125_ 0 0 rfl
  have h128_ := iv_get hv124_ (k := 0) (j := 0) (l := 0) (u := 1999) rfl
  have h129_ : a124_ 0 0 = a 0 0 := hf124_ 0 0 rfl
  have h130_ := iv_get hv125_ (k := 146) (j := 0) (l := 0) (u := 1999) rfl
  have h131_ : a125_ 146 0 = a124_ 146 0 := hf125_ 146 0 rfl
  have h132_ := iv_get hv124_ (k := 146) (j := 0) (l := 0) (u := 1999) rfl
  have h133_ : a124_ 146 0 = a 146 0 := hf124_ 146 0 rfl
  exact hnext a125_ b hv125_ (WFW_fr (WFW_fr hg0 hf124_ (fun _ => rfl) (fun _ => rfl)) hf125_ (fun _ => rfl) (fun _ => rfl)) (SV_fr (SV_fr hg1 hf124_ (fun _ => rfl) (fun _ => rfl)) hf125_ (fun _ => rfl) (fun _ => rfl)) hq125_0 (FO_fr (FO_fr hg3 hf124_ rfl rfl (fun _ => rfl)) hf125_ rfl rfl (fun _ => rfl)) (FW_fr (FW_fr hg4 hf124_ rfl (fun _ => rfl)) hf125_ rfl (fun _ => rfl)) (show a125_ 0 0 = a125_ 146 0 from by omega)
theorem lw_op490 (E : jxE) (d : Nat) (hd : Nat.ble 60 (d + 1) = true) (hL : E.1 ≤ 3072) (y3 : Int) (hy0 : 0 ≤ y3) (hy1 : y3 + 6 ≤ E.1) (hnext : ∀ (a b : Nat → Nat → Int) (hv : iv a) (hg0 : WFW a) (hg1 : SV a) (hg2 : OC a) (hg3 : FO a) (hg4 : FW a) (hr0 : a 0 0 = a 146 0), jt (jxX E d 305 1189 [some (.inr (.inr (.inl 3000))), some (.inr (.inr (.inl 0))), some (.inr (.inr (.inl 146))), some (.inl y3)] [] (jxSH, a, b)) (fun v _ _ => v = [.inl 1])) (a b : Nat → Nat → Int) (hv : iv a) (hg0 : WFW a) (hg1 : SV a) (hg2 : OC a) (hg3 : FO a) (hg4 : FW a) (hr0 : a 0 0 = a 146 0) : jt (jxX E d 305 490 [some (.inr (.inr (.inl 3000))), some (.inr (.inr (.inl 0))), some (.inr (.inr (.inl 146))), some (.inl y3)] [] (jxSH, a, b)) (fun v _ _ => v = [.inl 1]) := by
  refine jt_eq (bq_law_490 E d y3 a b) ?_
  have h134_ := iv_get hv (k := 0) (j := 0) (l := 0) (u := 1999) rfl
  have h135_ := iv_get hv (k := 146) (j := 0) (l := 0) (u := 1999) rfl
  refine jt_bif (Nat.ble_eq_true_of_le (by omega)) ?_
  have h136_ : jxw (y3 + 1) = y3 + 1 := jxw_id (by omega) (by omega)
  refine jt_grd (by omega) ?_
  refine jt_bif (Nat.ble_eq_true_of_le (by omega)) ?_
  have h137_ : jxw (y3 + 2) = y3 + 2 := jxw_id (by omega) (by omega)
  refine jt_grd (by omega) ?_
  refine jt_bI (sp_X11_may E d (jd_le hd rfl) (E.2 ((jxw (y3 + 1)).toNat)) (E.2 ((jxw (y3 + 2)).toNat)) a b hv) (fun r138_ a138_ b138_ h138_ => ?_)
  obtain ⟨hv138_, hf138_, rfl⟩ := h138_
  refine jt_eq (bq_law_505 E d y3 a138_ b) ?_
  refine jt_bif (Nat.ble_eq_true_of_le (by omega)) ?_
  refine jt_grd (by omega) ?_
  refine jt_bif (Nat.ble_eq_true_of_le (by omega)) ?_
  refine jt_grd (by omega) ?_
  refine jt_bI (sp_X12_may E d (jd_le hd rfl) (E.2 ((jxw (y3 + 1)).toNat)) (E.2 ((jxw (y3 + 2)).toNat)) a138_ b hv138_ (WFW_fr hg0 hf138_ (fun _ => rfl) (fun _ => rfl))) (fun r139_ a139_ b139_ h139_ => ?_)
  obtain ⟨hv139_, hf139_, rfl⟩ := h139_
  have h140_ := iv_get hv139_ (k := 0) (j := 0) (l := 0) (u := 1999) rfl
  have h141_ : a139_ 0 0 = a138_ 0 0 := hf139_ 0 0 rfl
  have h142_ := iv_get hv138_ (k := 0) (j := 0) (l := 0) (u := 1999) rfl
  have h143_ : a138_ 0 0 = a 0 0 := hf138_ 0 0 rfl
  have h144_ := iv_get hv139_ (k := 146) (j := 0) (l := 0) (u := 1999) rfl
  have h145_ : a139_ 146 0 = a138_ 146 0 := hf139_ 146 0 rfl
  have h146_ := iv_get hv138_ (k := 146) (j := 0) (l := 0) (u := 1999) rfl
  have h147_ : a138_ 146 0 = a 146 0 := hf138_ 146 0 rfl
  exact hnext a139_ b hv139_ (WFW_fr (WFW_fr hg0 hf138_ (fun _ => rfl) (fun _ => rfl)) hf139_ (fun _ => rfl) (fun _ => rfl)) (SV_fr (SV_fr hg1 hf138_ (fun _ => rfl) (fun _ => rfl)) hf139_ (fun _ => rfl) (fun _ => rfl)) (OC_fr (OC_fr hg2 hf138_ rfl rfl (fun _ => rfl) (fun _ => rfl) (fun _ => rfl) (fun _ => rfl) (fun _ => rfl)) hf139_ rfl rfl (fun _ => rfl) (fun _ => rfl) (fun _ => rfl) (fun _ => rfl) (fun _ => rfl)) (FO_fr (FO_fr hg3 hf138_ rfl rfl (fun _ => rfl)) hf139_ rfl rfl (fun _ => rfl)) (FW_fr (FW_fr hg4 hf138_ rfl (fun _ => rfl)) hf139_ rfl (fun _ => rfl)) (show a139_ 0 0 = a139_ 146 0 from by omega)
theorem lw_op523 (E : jxE) (d : Nat) (hd : Nat.ble 60 (d + 1) = true) (hL : E.1 ≤ 3072) (y3 : Int) (hy0 : 0 ≤ y3) (hy1 : y3 + 6 ≤ E.1) (hnext : ∀ (a b : Nat → Nat → Int) (hv : iv a) (hg0 : WFW a) (hg1 : SV a) (hg2 : OC a) (hg3 : FO a) (hg4 : FW a) (hr0 : a 0 0 = a 146 0), jt (jxX E d 305 1189 [some (.inr (.inr (.inl 3000))), some (.inr (.inr (.inl 0))), some (.inr (.inr (.inl 146))), some (.inl y3)] [] (jxSH, a, b)) (fun v _ _ => v = [.inl 1])) (a b : Nat → Nat → Int) (hv : iv a) (hg0 : WFW a) (hg1 : SV a) (hg2 : OC a) (hg3 : FO a) (hg4 : FW a) (hr0 : a 0 0 = a 146 0) : jt (jxX E d 305 523 [some (.inr (.inr (.inl 3000))), some (.inr (.inr (.inl 0))), some (.inr (.inr (.inl 146))), some (.inl y3)] [] (jxSH, a, b)) (fun v _ _ => v = [.inl 1]) := by
  refine jt_eq (bq_law_523 E d y3 a b) ?_
  have h148_ := iv_get hv (k := 0) (j := 0) (l := 0) (u := 1999) rfl
  have h149_ := iv_get hv (k := 146) (j := 0) (l := 0) (u := 1999) rfl
  refine jt_bif (Nat.ble_eq_true_of_le (by omega)) ?_
  have h150_ : jxw (y3 + 1) = y3 + 1 := jxw_id (by omega) (by omega)
  refine jt_grd (by omega) ?_
  refine jt_bI (sp_X11_list E d (jd_le hd rfl) (E.2 ((jxw (y3 + 1)).toNat)) a b hv) (fun r151_ a151_ b151_ h151_ => ?_)
  obtain ⟨hv151_, hf151_, rfl⟩ := h151_
  refine jt_eq (bq_law_533 E d y3 a151_ b) ?_
  refine jt_bif (Nat.ble_eq_true_of_le (by omega)) ?_
  refine jt_grd (by omega) ?_
  refine jt_bI (sp_X12_list E d (jd_le hd rfl) (E.2 ((jxw (y3 + 1)).toNat)) a151_ b hv151_) (fun r152_ a152_ b152_ h152_ => ?_)
  obtain ⟨hv152_, hf152_, rfl⟩ := h152_
  have h153_ := iv_get hv152_ (k := 0) (j := 0) (l := 0) (u := 1999) rfl
  have h154_ : a152_ 0 0 = a151_ 0 0 := hf152_ 0 0 rfl
  have h155_ := iv_get hv151_ (k := 0) (j := 0) (l := 0) (u := 1999) rfl
  have h156_ : a151_ 0 0 = a 0 0 := hf151_ 0 0 rfl
  have h157_ := iv_get hv152_ (k := 146) (j := 0) (l := 0) (u := 1999) rfl
  have h158_ : a152_ 146 0 = a151_ 146 0 := hf152_ 146 0 rfl
  have h159_ := iv_get hv151_ (k := 146) (j := 0) (l := 0) (u := 1999) rfl
  have h160_ : a151_ 146 0 = a 146 0 := hf151_ 146 0 rfl
  exact hnext a152_ b hv152_ (WFW_fr (WFW_fr hg0 hf151_ (fun _ => rfl) (fun _ => rfl)) hf152_ (fun _ => rfl) (fun _ => rfl)) (SV_fr (SV_fr hg1 hf151_ (fun _ => rfl) (fun _ => rfl)) hf152_ (fun _ => rfl) (fun _ => rfl)) (OC_fr (OC_fr hg2 hf151_ rfl rfl (fun _ => rfl) (fun _ => rfl) (fun _ => rfl) (fun _ => rfl) (fun _ => rfl)) hf152_ rfl rfl (fun _ => rfl) (fun _ => rfl) (fun _ => rfl) (fun _ => rfl) (fun _ => rfl)) (FO_fr (FO_fr hg3 hf151_ rfl rfl (fun _ => rfl)) hf152_ rfl rfl (fun _ => rfl)) (FW_fr (FW_fr hg4 hf151_ rfl (fun _ => rfl)) hf152_ rfl (fun _ => rfl)) (show a152_ 0 0 = a152_ 146 0 from by omega)
theorem lw_op546 (E : jxE) (d : Nat) (hd : Nat.ble 60 (d + 1) = true) (hL : E.1 ≤ 3072) (y3 : Int) (hy0 : 0 ≤ y3) (hy1 : y3 + 6 ≤ E.1) (hnext : ∀ (a b : Nat → Nat → Int) (hv : iv a) (hg0 : WFW a) (hg1 : SV a) (hg2 : OC a) (hg3 : FO a) (hg4 : FW a) (hr0 : a 0 0 = a 146 0), jt (jxX E d 305 1189 [some (.inr (.inr (.inl 3000))), some (.inr (.inr (.inl 0))), some (.inr (.inr (.inl 146))), some (.inl y3)] [] (jxSH, a, b)) (fun v _ _ => v = [.inl 1])) (a b : Nat → Nat → Int) (hv : iv a) (hg0 : WFW a) (hg1 : SV a) (hg2 : OC a) (hg3 : FO a) (hg4 : FW a) (hr0 : a 0 0 = a 146 0) : jt (jxX E d 305 546 [some (.inr (.inr (.inl 3000))), some (.inr (.inr (.inl 0))), some (.inr (.inr (.inl 146))), some (.inl y3)] [] (jxSH, a, b)) (fun v _ _ => v = [.inl 1]) := by
  refine jt_eq (bq_law_546 E d y3 a b) ?_
  have h161_ := iv_get hv (k := 0) (j := 0) (l := 0) (u := 1999) rfl
  have h162_ := iv_get hv (k := 146) (j := 0) (l := 0) (u := 1999) rfl
  refine jt_bI (sp_X11_give E d (jd_le hd rfl) a b hv) (fun r163_ a163_ b163_ h163_ => ?_)
  obtain ⟨hv163_, hf163_⟩ := h163_
  refine jt_eq (bq_law_551 E d y3 a163_ b163_) ?_
  refine jt_bI (sp_X12_give E d (jd_le hd rfl) a163_ b163_ hv163_ (WFW_fr hg0 hf163_ (fun _ => rfl) (fun _ => rfl)) (OC_fr hg2 hf163_ rfl rfl (fun _ => rfl) (fun _ => rfl) (fun _ => rfl) (fun _ => rfl) (fun _ => rfl))) (fun r164_ a164_ b164_ h164_ => ?_)
  obtain ⟨hv164_, hf164_, hq164_0⟩ := h164_
  have h165_ := iv_get hv164_ (k := 0) (j := 0) (l := 0) (u := 1999) rfl
  have h166_ : a164_ 0 0 = a163_ 0 0 := hf164_ 0 0 rfl
  have h167_ := iv_get hv163_ (k := 0) (j := 0) (l := 0) (u := 1999) rfl
  have h168_ : a163_ 0 0 = a 0 0 := hf163_ 0 0 rfl
  have h169_ := iv_get hv164_ (k := 146) (j := 0) (l := 0) (u := 1999) rfl
  have h170_ : a164_ 146 0 = a163_ 146 0 := hf164_ 146 0 rfl
  have h171_ := iv_get hv163_ (k := 146) (j := 0) (l := 0) (u := 1999) rfl
  have h172_ : a163_ 146 0 = a 146 0 := hf163_ 146 0 rfl
  exact hnext a164_ b164_ hv164_ (WFW_fr (WFW_fr hg0 hf163_ (fun _ => rfl) (fun _ => rfl)) hf164_ (fun _ => rfl) (fun _ => rfl)) (SV_fr (SV_fr hg1 hf163_ (fun _ => rfl) (fun _ => rfl)) hf164_ (fun _ => rfl) (fun _ => rfl)) hq164_0 (FO_fr (FO_fr hg3 hf163_ rfl rfl (fun _ => rfl)) hf164_ rfl rfl (fun _ => rfl)) (FW_fr (FW_fr hg4 hf163_ rfl (fun _ => rfl)) hf164_ rfl (fun _ => rfl)) (show a164_ 0 0 = a164_ 146 0 from by omega)
theorem lw_op559 (E : jxE) (d : Nat) (hd : Nat.ble 60 (d + 1) = true) (hL : E.1 ≤ 3072) (y3 : Int) (hy0 : 0 ≤ y3) (hy1 : y3 + 6 ≤ E.1) (hnext : ∀ (a b : Nat → Nat → Int) (hv : iv a) (hg0 : WFW a) (hg1 : SV a) (hg2 : OC a) (hg3 : FO a) (hg4 : FW a) (hr0 : a 0 0 = a 146 0), jt (jxX E d 305 1189 [some (.inr (.inr (.inl 3000))), some (.inr (.inr (.inl 0))), some (.inr (.inr (.inl 146))), some (.inl y3)] [] (jxSH, a, b)) (fun v _ _ => v = [.inl 1])) (a b : Nat → Nat → Int) (hv : iv a) (hg0 : WFW a) (hg1 : SV a) (hg2 : OC a) (hg3 : FO a) (hg4 : FW a) (hr0 : a 0 0 = a 146 0) : jt (jxX E d 305 559 [some (.inr (.inr (.inl 3000))), some (.inr (.inr (.inl 0))), some (.inr (.inr (.inl 146))), some (.inl y3)] [] (jxSH, a, b)) (fun v _ _ => v = [.inl 1]) := by
  refine jt_eq (bq_law_559 E d y3 a b) ?_
  have h173_ := iv_get hv (k := 0) (j := 0) (l := 0) (u := 1999) rfl
  have h174_ := iv_get hv (k := 146) (j := 0) (l := 0) (u := 1999) rfl
  refine jt_bif (Nat.ble_eq_true_of_le (by omega)) ?_
  have h175_ : jxw (y3 + 1) = y3 + 1 := jxw_id (by omega) (by omega)
  refine jt_grd (by omega) ?_
  refine jt_bif (Nat.ble_eq_true_of_le (by omega)) ?_
  have h176_ : jxw (y3 + 2) = y3 + 2 := jxw_id (by omega) (by omega)
  refine jt_grd (by omega) ?_
  refine jt_bI (sp_X11_arrive E d (jd_le hd rfl) (E.2 ((jxw (y3 + 1)).toNat)) (E.2 ((jxw (y3 + 2)).toNat)) a b hv) (fun r177_ a177_ b177_ h177_ => ?_)
  obtain ⟨hv177_, hf177_, rfl, hq177_0⟩ := h177_
  refine jt_eq (bq_law_574 E d y3 a177_ b) ?_
  refine jt_bif (Nat.ble_eq_true_of_le (by omega)) ?_
  refine jt_grd (by omega) ?_
  refine jt_bif (Nat.ble_eq_true_of_le (by omega)) ?_
  refine jt_grd (by omega) ?_
  refine jt_bI (sp_X12_arrive E d (jd_le hd rfl) (E.2 ((jxw (y3 + 1)).toNat)) (E.2 ((jxw (y3 + 2)).toNat)) a177_ b hv177_) (fun r178_ a178_ b178_ h178_ => ?_)
  obtain ⟨hv178_, hf178_, rfl, hq178_0⟩ := h178_
  have h179_ := iv_get hv178_ (k := 0) (j := 0) (l := 0) (u := 1999) rfl
  have h180_ : a178_ 0 0 = a177_ 0 0 := hf178_ 0 0 rfl
  have h181_ := iv_get hv177_ (k := 0) (j := 0) (l := 0) (u := 1999) rfl
  have h182_ : a177_ 0 0 = a 0 0 := hf177_ 0 0 rfl
  have h183_ := iv_get hv178_ (k := 146) (j := 0) (l := 0) (u := 1999) rfl
  have h184_ : a178_ 146 0 = a177_ 146 0 := hf178_ 146 0 rfl
  have h185_ := iv_get hv177_ (k := 146) (j := 0) (l := 0) (u := 1999) rfl
  have h186_ : a177_ 146 0 = a 146 0 := hf177_ 146 0 rfl
  exact hnext a178_ b hv178_ (WFW_fr (WFW_fr hg0 hf177_ (fun _ => rfl) (fun _ => rfl)) hf178_ (fun _ => rfl) (fun _ => rfl)) (SV_fr (SV_fr hg1 hf177_ (fun _ => rfl) (fun _ => rfl)) hf178_ (fun _ => rfl) (fun _ => rfl)) (OC_fr (OC_fr hg2 hf177_ rfl rfl (fun _ => rfl) (fun _ => rfl) (fun _ => rfl) (fun _ => rfl) (fun _ => rfl)) hf178_ rfl rfl (fun _ => rfl) (fun _ => rfl) (fun _ => rfl) (fun _ => rfl) (fun _ => rfl)) (FO_fr (FO_fr hg3 hf177_ rfl rfl (fun _ => rfl)) hf178_ rfl rfl (fun _ => rfl)) (FW_fr (FW_fr hg4 hf177_ rfl (fun _ => rfl)) hf178_ rfl (fun _ => rfl)) (show a178_ 0 0 = a178_ 146 0 from by omega)
theorem lw_op592 (E : jxE) (d : Nat) (hd : Nat.ble 60 (d + 1) = true) (hL : E.1 ≤ 3072) (y3 : Int) (hy0 : 0 ≤ y3) (hy1 : y3 + 6 ≤ E.1) (hnext : ∀ (a b : Nat → Nat → Int) (hv : iv a) (hg0 : WFW a) (hg1 : SV a) (hg2 : OC a) (hg3 : FO a) (hg4 : FW a) (hr0 : a 0 0 = a 146 0), jt (jxX E d 305 1189 [some (.inr (.inr (.inl 3000))), some (.inr (.inr (.inl 0))), some (.inr (.inr (.inl 146))), some (.inl y3)] [] (jxSH, a, b)) (fun v _ _ => v = [.inl 1])) (a b : Nat → Nat → Int) (hv : iv a) (hg0 : WFW a) (hg1 : SV a) (hg2 : OC a) (hg3 : FO a) (hg4 : FW a) (hr0 : a 0 0 = a 146 0) : jt (jxX E d 305 592 [some (.inr (.inr (.inl 3000))), some (.inr (.inr (.inl 0))), some (.inr (.inr (.inl 146))), some (.inl y3)] [] (jxSH, a, b)) (fun v _ _ => v = [.inl 1]) := by
  refine jt_eq (bq_law_592 E d y3 a b) ?_
  have h187_ := iv_get hv (k := 0) (j := 0) (l := 0) (u := 1999) rfl
  have h188_ := iv_get hv (k := 146) (j := 0) (l := 0) (u := 1999) rfl
  refine jt_bif (Nat.ble_eq_true_of_le (by omega)) ?_
  have h189_ : jxw (y3 + 1) = y3 + 1 := jxw_id (by omega) (by omega)
  refine jt_grd (by omega) ?_
  refine jt_bI (sp_X11_back E d (jd_le hd rfl) (E.2 ((jxw (y3 + 1)).toNat)) a b hv) (fun r190_ a190_ b190_ h190_ => ?_)
  obtain ⟨hv190_, hf190_, rfl, hq190_0⟩ := h190_
  refine jt_eq (bq_law_602 E d y3 a190_ b) ?_
  refine jt_bif (Nat.ble_eq_true_of_le (by omega)) ?_
  refine jt_grd (by omega) ?_
  refine jt_bI (sp_X12_back E d (jd_le hd rfl) (E.2 ((jxw (y3 + 1)).toNat)) a190_ b hv190_) (fun r191_ a191_ b191_ h191_ => ?_)
  obtain ⟨hv191_, hf191_, rfl, hq191_0⟩ := h191_
  have h192_ := iv_get hv191_ (k := 0) (j := 0) (l := 0) (u := 1999) rfl
  have h193_ : a191_ 0 0 = a190_ 0 0 := hf191_ 0 0 rfl
  have h194_ := iv_get hv190_ (k := 0) (j := 0) (l := 0) (u := 1999) rfl
  have h195_ : a190_ 0 0 = a 0 0 := hf190_ 0 0 rfl
  have h196_ := iv_get hv191_ (k := 146) (j := 0) (l := 0) (u := 1999) rfl
  have h197_ : a191_ 146 0 = a190_ 146 0 := hf191_ 146 0 rfl
  have h198_ := iv_get hv190_ (k := 146) (j := 0) (l := 0) (u := 1999) rfl
  have h199_ : a190_ 146 0 = a 146 0 := hf190_ 146 0 rfl
  exact hnext a191_ b hv191_ (WFW_fr (WFW_fr hg0 hf190_ (fun _ => rfl) (fun _ => rfl)) hf191_ (fun _ => rfl) (fun _ => rfl)) (SV_fr (SV_fr hg1 hf190_ (fun _ => rfl) (fun _ => rfl)) hf191_ (fun _ => rfl) (fun _ => rfl)) (OC_fr (OC_fr hg2 hf190_ rfl rfl (fun _ => rfl) (fun _ => rfl) (fun _ => rfl) (fun _ => rfl) (fun _ => rfl)) hf191_ rfl rfl (fun _ => rfl) (fun _ => rfl) (fun _ => rfl) (fun _ => rfl) (fun _ => rfl)) (FO_fr (FO_fr hg3 hf190_ rfl rfl (fun _ => rfl)) hf191_ rfl rfl (fun _ => rfl)) (FW_fr (FW_fr hg4 hf190_ rfl (fun _ => rfl)) hf191_ rfl (fun _ => rfl)) (show a191_ 0 0 = a191_ 146 0 from by omega)
theorem lw_op615 (E : jxE) (d : Nat) (hd : Nat.ble 60 (d + 1) = true) (hL : E.1 ≤ 3072) (y3 : Int) (hy0 : 0 ≤ y3) (hy1 : y3 + 6 ≤ E.1) (hnext : ∀ (a b : Nat → Nat → Int) (hv : iv a) (hg0 : WFW a) (hg1 : SV a) (hg2 : OC a) (hg3 : FO a) (hg4 : FW a) (hr0 : a 0 0 = a 146 0), jt (jxX E d 305 1189 [some (.inr (.inr (.inl 3000))), some (.inr (.inr (.inl 0))), some (.inr (.inr (.inl 146))), some (.inl y3)] [] (jxSH, a, b)) (fun v _ _ => v = [.inl 1])) (a b : Nat → Nat → Int) (hv : iv a) (hg0 : WFW a) (hg1 : SV a) (hg2 : OC a) (hg3 : FO a) (hg4 : FW a) (hr0 : a 0 0 = a 146 0) : jt (jxX E d 305 615 [some (.inr (.inr (.inl 3000))), some (.inr (.inr (.inl 0))), some (.inr (.inr (.inl 146))), some (.inl y3)] [] (jxSH, a, b)) (fun v _ _ => v = [.inl 1]) := by
  refine jt_eq (bq_law_615 E d y3 a b) ?_
  have h200_ := iv_get hv (k := 0) (j := 0) (l := 0) (u := 1999) rfl
  have h201_ := iv_get hv (k := 146) (j := 0) (l := 0) (u := 1999) rfl
  refine jt_bif (Nat.ble_eq_true_of_le (by omega)) ?_
  have h202_ : jxw (y3 + 1) = y3 + 1 := jxw_id (by omega) (by omega)
  refine jt_grd (by omega) ?_
  refine jt_bif (Nat.ble_eq_true_of_le (by omega)) ?_
  have h203_ : jxw (y3 + 2) = y3 + 2 := jxw_id (by omega) (by omega)
  refine jt_grd (by omega) ?_
  refine jt_eI (eq_X11_card E d (jd_le hd rfl) (E.2 ((jxw (y3 + 1)).toNat)) (E.2 ((jxw (y3 + 2)).toNat)) a b) ?_
  refine jt_eq (bq_law_630 E d y3 a b) ?_
  refine jt_bif (Nat.ble_eq_true_of_le (by omega)) ?_
  refine jt_grd (by omega) ?_
  refine jt_bif (Nat.ble_eq_true_of_le (by omega)) ?_
  refine jt_grd (by omega) ?_
  refine jt_bI (sp_X12_card E d (jd_le hd rfl) (E.2 ((jxw (y3 + 1)).toNat)) (E.2 ((jxw (y3 + 2)).toNat)) a b hv) (fun r204_ a204_ b204_ h204_ => ?_)
  obtain ⟨rfl, rfl⟩ := h204_
  exact hnext a b hv hg0 hg1 hg2 hg3 hg4 (show a 0 0 = a 146 0 from by omega)
theorem lw_op648 (E : jxE) (d : Nat) (hd : Nat.ble 60 (d + 1) = true) (hL : E.1 ≤ 3072) (y3 : Int) (hy0 : 0 ≤ y3) (hy1 : y3 + 6 ≤ E.1) (hnext : ∀ (a b : Nat → Nat → Int) (hv : iv a) (hg0 : WFW a) (hg1 : SV a) (hg2 : OC a) (hg3 : FO a) (hg4 : FW a) (hr0 : a 0 0 = a 146 0), jt (jxX E d 305 1189 [some (.inr (.inr (.inl 3000))), some (.inr (.inr (.inl 0))), some (.inr (.inr (.inl 146))), some (.inl y3)] [] (jxSH, a, b)) (fun v _ _ => v = [.inl 1])) (a b : Nat → Nat → Int) (hv : iv a) (hg0 : WFW a) (hg1 : SV a) (hg2 : OC a) (hg3 : FO a) (hg4 : FW a) (hr0 : a 0 0 = a 146 0) : jt (jxX E d 305 648 [some (.inr (.inr (.inl 3000))), some (.inr (.inr (.inl 0))), some (.inr (.inr (.inl 146))), some (.inl y3)] [] (jxSH, a, b)) (fun v _ _ => v = [.inl 1]) := by
  refine jt_eq (bq_law_648 E d y3 a b) ?_
  have h205_ := iv_get hv (k := 0) (j := 0) (l := 0) (u := 1999) rfl
  have h206_ := iv_get hv (k := 146) (j := 0) (l := 0) (u := 1999) rfl
  refine jt_bif (Nat.ble_eq_true_of_le (by omega)) ?_
  have h207_ : jxw (y3 + 1) = y3 + 1 := jxw_id (by omega) (by omega)
  refine jt_grd (by omega) ?_
  refine jt_bif (Nat.ble_eq_true_of_le (by omega)) ?_
  have h208_ : jxw (y3 + 2) = y3 + 2 := jxw_id (by omega) (by omega)
  refine jt_grd (by omega) ?_
  refine jt_bif (Nat.ble_eq_true_of_le (by omega)) ?_
  have h209_ : jxw (y3 + 3) = y3 + 3 := jxw_id (by omega) (by omega)
  refine jt_grd (by omega) ?_
  refine jt_bI (sp_X11_state E d (jd_le hd rfl) (E.2 ((jxw (y3 + 1)).toNat)) (E.2 ((jxw (y3 + 2)).toNat)) (E.2 ((jxw (y3 + 3)).toNat)) a b hv) (fun r210_ a210_ b210_ h210_ => ?_)
  obtain ⟨rfl, rfl⟩ := h210_
  refine jt_eq (bq_law_668 E d y3 a b) ?_
  refine jt_bif (Nat.ble_eq_true_of_le (by omega)) ?_
  refine jt_grd (by omega) ?_
  refine jt_bif (Nat.ble_eq_true_of_le (by omega)) ?_
  refine jt_grd (by omega) ?_
  refine jt_bif (Nat.ble_eq_true_of_le (by omega)) ?_
  refine jt_grd (by omega) ?_
  refine jt_bI (sp_X12_state E d (jd_le hd rfl) (E.2 ((jxw (y3 + 1)).toNat)) (E.2 ((jxw (y3 + 2)).toNat)) (E.2 ((jxw (y3 + 3)).toNat)) a b hv) (fun r211_ a211_ b211_ h211_ => ?_)
  obtain ⟨rfl, rfl⟩ := h211_
  refine jt_eq (bq_law_688 E d y3 a b) ?_
  exact hnext a b hv hg0 hg1 hg2 hg3 hg4 (show a 0 0 = a 146 0 from by omega)
theorem lw_op691 (E : jxE) (d : Nat) (hd : Nat.ble 60 (d + 1) = true) (hL : E.1 ≤ 3072) (y3 : Int) (hy0 : 0 ≤ y3) (hy1 : y3 + 6 ≤ E.1) (hnext : ∀ (a b : Nat → Nat → Int) (hv : iv a) (hg0 : WFW a) (hg1 : SV a) (hg2 : OC a) (hg3 : FO a) (hg4 : FW a) (hr0 : a 0 0 = a 146 0), jt (jxX E d 305 1189 [some (.inr (.inr (.inl 3000))), some (.inr (.inr (.inl 0))), some (.inr (.inr (.inl 146))), some (.inl y3)] [] (jxSH, a, b)) (fun v _ _ => v = [.inl 1])) (a b : Nat → Nat → Int) (hv : iv a) (hg0 : WFW a) (hg1 : SV a) (hg2 : OC a) (hg3 : FO a) (hg4 : FW a) (hr0 : a 0 0 = a 146 0) : jt (jxX E d 305 691 [some (.inr (.inr (.inl 3000))), some (.inr (.inr (.inl 0))), some (.inr (.inr (.inl 146))), some (.inl y3)] [] (jxSH, a, b)) (fun v _ _ => v = [.inl 1]) := by
  refine jt_eq (bq_law_691 E d y3 a b) ?_
  have h212_ := iv_get hv (k := 0) (j := 0) (l := 0) (u := 1999) rfl
  have h213_ := iv_get hv (k := 146) (j := 0) (l := 0) (u := 1999) rfl
  refine jt_bif (Nat.ble_eq_true_of_le (by omega)) ?_
  have h214_ : jxw (y3 + 1) = y3 + 1 := jxw_id (by omega) (by omega)
  refine jt_grd (by omega) ?_
  refine jt_bif (Nat.ble_eq_true_of_le (by omega)) ?_
  have h215_ : jxw (y3 + 2) = y3 + 2 := jxw_id (by omega) (by omega)
  refine jt_grd (by omega) ?_
  refine jt_bI (sp_X11_about E d (jd_le hd rfl) (E.2 ((jxw (y3 + 1)).toNat)) (E.2 ((jxw (y3 + 2)).toNat)) a b hv) (fun r216_ a216_ b216_ h216_ => ?_)
  obtain ⟨hv216_, hf216_, rfl⟩ := h216_
  refine jt_eq (bq_law_706 E d y3 a216_ b) ?_
  refine jt_bif (Nat.ble_eq_true_of_le (by omega)) ?_
  refine jt_grd (by omega) ?_
  refine jt_bif (Nat.ble_eq_true_of_le (by omega)) ?_
  refine jt_grd (by omega) ?_
  refine jt_bI (sp_X12_about E d (jd_le hd rfl) (E.2 ((jxw (y3 + 1)).toNat)) (E.2 ((jxw (y3 + 2)).toNat)) a216_ b hv216_) (fun r217_ a217_ b217_ h217_ => ?_)
  obtain ⟨rfl, rfl⟩ := h217_
  have h218_ := iv_get hv216_ (k := 0) (j := 0) (l := 0) (u := 1999) rfl
  have h219_ : a216_ 0 0 = a 0 0 := hf216_ 0 0 rfl
  have h220_ := iv_get hv216_ (k := 146) (j := 0) (l := 0) (u := 1999) rfl
  have h221_ : a216_ 146 0 = a 146 0 := hf216_ 146 0 rfl
  exact hnext a216_ b hv216_ (WFW_fr hg0 hf216_ (fun _ => rfl) (fun _ => rfl)) (SV_fr hg1 hf216_ (fun _ => rfl) (fun _ => rfl)) (OC_fr hg2 hf216_ rfl rfl (fun _ => rfl) (fun _ => rfl) (fun _ => rfl) (fun _ => rfl) (fun _ => rfl)) (FO_fr hg3 hf216_ rfl rfl (fun _ => rfl)) (FW_fr hg4 hf216_ rfl (fun _ => rfl)) (show a216_ 0 0 = a216_ 146 0 from by omega)
theorem lw_op724 (E : jxE) (d : Nat) (hd : Nat.ble 60 (d + 1) = true) (hL : E.1 ≤ 3072) (y3 : Int) (hy0 : 0 ≤ y3) (hy1 : y3 + 6 ≤ E.1) (hnext : ∀ (a b : Nat → Nat → Int) (hv : iv a) (hg0 : WFW a) (hg1 : SV a) (hg2 : OC a) (hg3 : FO a) (hg4 : FW a) (hr0 : a 0 0 = a 146 0), jt (jxX E d 305 1189 [some (.inr (.inr (.inl 3000))), some (.inr (.inr (.inl 0))), some (.inr (.inr (.inl 146))), some (.inl y3)] [] (jxSH, a, b)) (fun v _ _ => v = [.inl 1])) (a b : Nat → Nat → Int) (hv : iv a) (hg0 : WFW a) (hg1 : SV a) (hg2 : OC a) (hg3 : FO a) (hg4 : FW a) (hr0 : a 0 0 = a 146 0) : jt (jxX E d 305 724 [some (.inr (.inr (.inl 3000))), some (.inr (.inr (.inl 0))), some (.inr (.inr (.inl 146))), some (.inl y3)] [] (jxSH, a, b)) (fun v _ _ => v = [.inl 1]) := by
  refine jt_eq (bq_law_724 E d y3 a b) ?_
  have h222_ := iv_get hv (k := 0) (j := 0) (l := 0) (u := 1999) rfl
  have h223_ := iv_get hv (k := 146) (j := 0) (l := 0) (u := 1999) rfl
  refine jt_bif (Nat.ble_eq_true_of_le (by omega)) ?_
  have h224_ : jxw (y3 + 1) = y3 + 1 := jxw_id (by omega) (by omega)
  refine jt_grd (by omega) ?_
  refine jt_bI (sp_X11_album E d (jd_le hd rfl) (E.2 ((jxw (y3 + 1)).toNat)) a b hv) (fun r225_ a225_ b225_ h225_ => ?_)
  obtain ⟨rfl, rfl⟩ := h225_
  refine jt_eq (bq_law_734 E d y3 a b) ?_
  refine jt_bif (Nat.ble_eq_true_of_le (by omega)) ?_
  refine jt_grd (by omega) ?_
  refine jt_bI (sp_X12_album E d (jd_le hd rfl) (E.2 ((jxw (y3 + 1)).toNat)) a b hv) (fun r226_ a226_ b226_ h226_ => ?_)
  obtain ⟨rfl, rfl⟩ := h226_
  exact hnext a b hv hg0 hg1 hg2 hg3 hg4 (show a 0 0 = a 146 0 from by omega)
theorem lw_op747 (E : jxE) (d : Nat) (hd : Nat.ble 60 (d + 1) = true) (hL : E.1 ≤ 3072) (y3 : Int) (hy0 : 0 ≤ y3) (hy1 : y3 + 6 ≤ E.1) (hnext : ∀ (a b : Nat → Nat → Int) (hv : iv a) (hg0 : WFW a) (hg1 : SV a) (hg2 : OC a) (hg3 : FO a) (hg4 : FW a) (hr0 : a 0 0 = a 146 0), jt (jxX E d 305 1189 [some (.inr (.inr (.inl 3000))), some (.inr (.inr (.inl 0))), some (.inr (.inr (.inl 146))), some (.inl y3)] [] (jxSH, a, b)) (fun v _ _ => v = [.inl 1])) (a b : Nat → Nat → Int) (hv : iv a) (hg0 : WFW a) (hg1 : SV a) (hg2 : OC a) (hg3 : FO a) (hg4 : FW a) (hr0 : a 0 0 = a 146 0) : jt (jxX E d 305 747 [some (.inr (.inr (.inl 3000))), some (.inr (.inr (.inl 0))), some (.inr (.inr (.inl 146))), some (.inl y3)] [] (jxSH, a, b)) (fun v _ _ => v = [.inl 1]) := by
  refine jt_eq (bq_law_747 E d y3 a b) ?_
  have h227_ := iv_get hv (k := 0) (j := 0) (l := 0) (u := 1999) rfl
  have h228_ := iv_get hv (k := 146) (j := 0) (l := 0) (u := 1999) rfl
  refine jt_bif (Nat.ble_eq_true_of_le (by omega)) ?_
  have h229_ : jxw (y3 + 1) = y3 + 1 := jxw_id (by omega) (by omega)
  refine jt_grd (by omega) ?_
  refine jt_bif (Nat.ble_eq_true_of_le (by omega)) ?_
  have h230_ : jxw (y3 + 2) = y3 + 2 := jxw_id (by omega) (by omega)
  refine jt_grd (by omega) ?_
  refine jt_bif (Nat.ble_eq_true_of_le (by omega)) ?_
  have h231_ : jxw (y3 + 3) = y3 + 3 := jxw_id (by omega) (by omega)
  refine jt_grd (by omega) ?_
  refine jt_bI (sp_X11_span E d (jd_le hd rfl) (E.2 ((jxw (y3 + 1)).toNat)) (E.2 ((jxw (y3 + 2)).toNat)) (E.2 ((jxw (y3 + 3)).toNat)) a b hv) (fun r232_ a232_ b232_ h232_ => ?_)
  obtain ⟨hv232_, hf232_, rfl⟩ := h232_
  refine jt_eq (bq_law_767 E d y3 a232_ b) ?_
  refine jt_bif (Nat.ble_eq_true_of_le (by omega)) ?_
  refine jt_grd (by omega) ?_
  refine jt_bif (Nat.ble_eq_true_of_le (by omega)) ?_
  refine jt_grd (by omega) ?_
  refine jt_bif (Nat.ble_eq_true_of_le (by omega)) ?_
  refine jt_grd (by omega) ?_
  refine jt_bI (sp_X12_span E d (jd_le hd rfl) (E.2 ((jxw (y3 + 1)).toNat)) (E.2 ((jxw (y3 + 2)).toNat)) (E.2 ((jxw (y3 + 3)).toNat)) a232_ b hv232_) (fun r233_ a233_ b233_ h233_ => ?_)
  obtain ⟨hv233_, hf233_, rfl⟩ := h233_
  refine jt_eq (bq_law_787 E d y3 a233_ b) ?_
  have h234_ := iv_get hv233_ (k := 0) (j := 0) (l := 0) (u := 1999) rfl
  have h235_ : a233_ 0 0 = a232_ 0 0 := hf233_ 0 0 rfl
  have h236_ := iv_get hv232_ (k := 0) (j := 0) (l := 0) (u := 1999) rfl
  have h237_ : a232_ 0 0 = a 0 0 := hf232_ 0 0 rfl
  have h238_ := iv_get hv233_ (k := 146) (j := 0) (l := 0) (u := 1999) rfl
  have h239_ : a233_ 146 0 = a232_ 146 0 := hf233_ 146 0 rfl
  have h240_ := iv_get hv232_ (k := 146) (j := 0) (l := 0) (u := 1999) rfl
  have h241_ : a232_ 146 0 = a 146 0 := hf232_ 146 0 rfl
  exact hnext a233_ b hv233_ (WFW_fr (WFW_fr hg0 hf232_ (fun _ => rfl) (fun _ => rfl)) hf233_ (fun _ => rfl) (fun _ => rfl)) (SV_fr (SV_fr hg1 hf232_ (fun _ => rfl) (fun _ => rfl)) hf233_ (fun _ => rfl) (fun _ => rfl)) (OC_fr (OC_fr hg2 hf232_ rfl rfl (fun _ => rfl) (fun _ => rfl) (fun _ => rfl) (fun _ => rfl) (fun _ => rfl)) hf233_ rfl rfl (fun _ => rfl) (fun _ => rfl) (fun _ => rfl) (fun _ => rfl) (fun _ => rfl)) (FO_fr (FO_fr hg3 hf232_ rfl rfl (fun _ => rfl)) hf233_ rfl rfl (fun _ => rfl)) (FW_fr (FW_fr hg4 hf232_ rfl (fun _ => rfl)) hf233_ rfl (fun _ => rfl)) (show a233_ 0 0 = a233_ 146 0 from by omega)
theorem lw_op790 (E : jxE) (d : Nat) (hd : Nat.ble 60 (d + 1) = true) (hL : E.1 ≤ 3072) (y3 : Int) (hy0 : 0 ≤ y3) (hy1 : y3 + 6 ≤ E.1) (hnext : ∀ (a b : Nat → Nat → Int) (hv : iv a) (hg0 : WFW a) (hg1 : SV a) (hg2 : OC a) (hg3 : FO a) (hg4 : FW a) (hr0 : a 0 0 = a 146 0), jt (jxX E d 305 1189 [some (.inr (.inr (.inl 3000))), some (.inr (.inr (.inl 0))), some (.inr (.inr (.inl 146))), some (.inl y3)] [] (jxSH, a, b)) (fun v _ _ => v = [.inl 1])) (a b : Nat → Nat → Int) (hv : iv a) (hg0 : WFW a) (hg1 : SV a) (hg2 : OC a) (hg3 : FO a) (hg4 : FW a) (hr0 : a 0 0 = a 146 0) : jt (jxX E d 305 790 [some (.inr (.inr (.inl 3000))), some (.inr (.inr (.inl 0))), some (.inr (.inr (.inl 146))), some (.inl y3)] [] (jxSH, a, b)) (fun v _ _ => v = [.inl 1]) := by
  refine jt_eq (bq_law_790 E d y3 a b) ?_
  have h242_ := iv_get hv (k := 0) (j := 0) (l := 0) (u := 1999) rfl
  have h243_ := iv_get hv (k := 146) (j := 0) (l := 0) (u := 1999) rfl
  refine jt_bif (Nat.ble_eq_true_of_le (by omega)) ?_
  have h244_ : jxw (y3 + 1) = y3 + 1 := jxw_id (by omega) (by omega)
  refine jt_grd (by omega) ?_
  refine jt_bif (Nat.ble_eq_true_of_le (by omega)) ?_
  have h245_ : jxw (y3 + 2) = y3 + 2 := jxw_id (by omega) (by omega)
  refine jt_grd (by omega) ?_
  refine jt_bif (Nat.ble_eq_true_of_le (by omega)) ?_
  have h246_ : jxw (y3 + 3) = y3 + 3 := jxw_id (by omega) (by omega)
  refine jt_grd (by omega) ?_
  refine jt_bI (sp_X11_offer E d (jd_le hd rfl) (E.2 ((jxw (y3 + 1)).toNat)) (E.2 ((jxw (y3 + 2)).toNat)) (E.2 ((jxw (y3 + 3)).toNat)) a b hv) (fun r247_ a247_ b247_ h247_ => ?_)
  obtain ⟨hv247_, hf247_, rfl⟩ := h247_
  refine jt_eq (bq_law_810 E d y3 a247_ b) ?_
  refine jt_bif (Nat.ble_eq_true_of_le (by omega)) ?_
  refine jt_grd (by omega) ?_
  refine jt_bif (Nat.ble_eq_true_of_le (by omega)) ?_
  refine jt_grd (by omega) ?_
  refine jt_bif (Nat.ble_eq_true_of_le (by omega)) ?_
  refine jt_grd (by omega) ?_
  refine jt_bI (sp_X12_offer E d (jd_le hd rfl) (E.2 ((jxw (y3 + 1)).toNat)) (E.2 ((jxw (y3 + 2)).toNat)) (E.2 ((jxw (y3 + 3)).toNat)) a247_ b hv247_ (OC_fr hg2 hf247_ rfl rfl (fun _ => rfl) (fun _ => rfl) (fun _ => rfl) (fun _ => rfl) (fun _ => rfl)) (FO_fr hg3 hf247_ rfl rfl (fun _ => rfl)) (FW_fr hg4 hf247_ rfl (fun _ => rfl))) (fun r248_ a248_ b248_ h248_ => ?_)
  obtain ⟨hv248_, hf248_, rfl, hq248_0, hq248_1, hq248_2⟩ := h248_
  refine jt_eq (bq_law_830 E d y3 a248_ b) ?_
  have h249_ := iv_get hv248_ (k := 0) (j := 0) (l := 0) (u := 1999) rfl
  have h250_ : a248_ 0 0 = a247_ 0 0 := hf248_ 0 0 rfl
  have h251_ := iv_get hv247_ (k := 0) (j := 0) (l := 0) (u := 1999) rfl
  have h252_ : a247_ 0 0 = a 0 0 := hf247_ 0 0 rfl
  have h253_ := iv_get hv248_ (k := 146) (j := 0) (l := 0) (u := 1999) rfl
  have h254_ : a248_ 146 0 = a247_ 146 0 := hf248_ 146 0 rfl
  have h255_ := iv_get hv247_ (k := 146) (j := 0) (l := 0) (u := 1999) rfl
  have h256_ : a247_ 146 0 = a 146 0 := hf247_ 146 0 rfl
  exact hnext a248_ b hv248_ (WFW_fr (WFW_fr hg0 hf247_ (fun _ => rfl) (fun _ => rfl)) hf248_ (fun _ => rfl) (fun _ => rfl)) (SV_fr (SV_fr hg1 hf247_ (fun _ => rfl) (fun _ => rfl)) hf248_ (fun _ => rfl) (fun _ => rfl)) hq248_0 hq248_1 hq248_2 (show a248_ 0 0 = a248_ 146 0 from by omega)
theorem lw_op833 (E : jxE) (d : Nat) (hd : Nat.ble 60 (d + 1) = true) (hL : E.1 ≤ 3072) (y3 : Int) (hy0 : 0 ≤ y3) (hy1 : y3 + 6 ≤ E.1) (hnext : ∀ (a b : Nat → Nat → Int) (hv : iv a) (hg0 : WFW a) (hg1 : SV a) (hg2 : OC a) (hg3 : FO a) (hg4 : FW a) (hr0 : a 0 0 = a 146 0), jt (jxX E d 305 1189 [some (.inr (.inr (.inl 3000))), some (.inr (.inr (.inl 0))), some (.inr (.inr (.inl 146))), some (.inl y3)] [] (jxSH, a, b)) (fun v _ _ => v = [.inl 1])) (a b : Nat → Nat → Int) (hv : iv a) (hg0 : WFW a) (hg1 : SV a) (hg2 : OC a) (hg3 : FO a) (hg4 : FW a) (hr0 : a 0 0 = a 146 0) : jt (jxX E d 305 833 [some (.inr (.inr (.inl 3000))), some (.inr (.inr (.inl 0))), some (.inr (.inr (.inl 146))), some (.inl y3)] [] (jxSH, a, b)) (fun v _ _ => v = [.inl 1]) := by
  refine jt_eq (bq_law_833 E d y3 a b) ?_
  have h257_ := iv_get hv (k := 0) (j := 0) (l := 0) (u := 1999) rfl
  have h258_ := iv_get hv (k := 146) (j := 0) (l := 0) (u := 1999) rfl
  refine jt_bif (Nat.ble_eq_true_of_le (by omega)) ?_
  have h259_ : jxw (y3 + 1) = y3 + 1 := jxw_id (by omega) (by omega)
  refine jt_grd (by omega) ?_
  refine jt_bI (sp_X11_away E d (jd_le hd rfl) (E.2 ((jxw (y3 + 1)).toNat)) a b hv) (fun r260_ a260_ b260_ h260_ => ?_)
  obtain ⟨hv260_, hf260_, rfl, hq260_0⟩ := h260_
  refine jt_eq (bq_law_843 E d y3 a260_ b) ?_
  refine jt_bif (Nat.ble_eq_true_of_le (by omega)) ?_
  refine jt_grd (by omega) ?_
  refine jt_bI (sp_X12_away E d (jd_le hd rfl) (E.2 ((jxw (y3 + 1)).toNat)) a260_ b hv260_ (OC_fr hg2 hf260_ rfl rfl (fun _ => rfl) (fun _ => rfl) (fun _ => rfl) (fun _ => rfl) (fun _ => rfl))) (fun r261_ a261_ b261_ h261_ => ?_)
  obtain ⟨hv261_, hf261_, rfl, hq261_0, hq261_1⟩ := h261_
  have h262_ := iv_get hv261_ (k := 0) (j := 0) (l := 0) (u := 1999) rfl
  have h263_ : a261_ 0 0 = a260_ 0 0 := hf261_ 0 0 rfl
  have h264_ := iv_get hv260_ (k := 0) (j := 0) (l := 0) (u := 1999) rfl
  have h265_ : a260_ 0 0 = a 0 0 := hf260_ 0 0 rfl
  have h266_ := iv_get hv261_ (k := 146) (j := 0) (l := 0) (u := 1999) rfl
  have h267_ : a261_ 146 0 = a260_ 146 0 := hf261_ 146 0 rfl
  have h268_ := iv_get hv260_ (k := 146) (j := 0) (l := 0) (u := 1999) rfl
  have h269_ : a260_ 146 0 = a 146 0 := hf260_ 146 0 rfl
  exact hnext a261_ b hv261_ (WFW_fr (WFW_fr hg0 hf260_ (fun _ => rfl) (fun _ => rfl)) hf261_ (fun _ => rfl) (fun _ => rfl)) (SV_fr (SV_fr hg1 hf260_ (fun _ => rfl) (fun _ => rfl)) hf261_ (fun _ => rfl) (fun _ => rfl)) hq261_1 (FO_fr (FO_fr hg3 hf260_ rfl rfl (fun _ => rfl)) hf261_ rfl rfl (fun _ => rfl)) (FW_fr (FW_fr hg4 hf260_ rfl (fun _ => rfl)) hf261_ rfl (fun _ => rfl)) (show a261_ 0 0 = a261_ 146 0 from by omega)
theorem lw_op856 (E : jxE) (d : Nat) (hd : Nat.ble 60 (d + 1) = true) (hL : E.1 ≤ 3072) (y3 : Int) (hy0 : 0 ≤ y3) (hy1 : y3 + 6 ≤ E.1) (hnext : ∀ (a b : Nat → Nat → Int) (hv : iv a) (hg0 : WFW a) (hg1 : SV a) (hg2 : OC a) (hg3 : FO a) (hg4 : FW a) (hr0 : a 0 0 = a 146 0), jt (jxX E d 305 1189 [some (.inr (.inr (.inl 3000))), some (.inr (.inr (.inl 0))), some (.inr (.inr (.inl 146))), some (.inl y3)] [] (jxSH, a, b)) (fun v _ _ => v = [.inl 1])) (a b : Nat → Nat → Int) (hv : iv a) (hg0 : WFW a) (hg1 : SV a) (hg2 : OC a) (hg3 : FO a) (hg4 : FW a) (hr0 : a 0 0 = a 146 0) : jt (jxX E d 305 856 [some (.inr (.inr (.inl 3000))), some (.inr (.inr (.inl 0))), some (.inr (.inr (.inl 146))), some (.inl y3)] [] (jxSH, a, b)) (fun v _ _ => v = [.inl 1]) := by
  refine jt_eq (bq_law_856 E d y3 a b) ?_
  have h270_ := iv_get hv (k := 0) (j := 0) (l := 0) (u := 1999) rfl
  have h271_ := iv_get hv (k := 146) (j := 0) (l := 0) (u := 1999) rfl
  refine jt_bI (sp_X11_rings E d (jd_le hd rfl) a b hv) (fun r272_ a272_ b272_ h272_ => ?_)
  obtain ⟨hv272_, hf272_⟩ := h272_
  refine jt_eq (bq_law_861 E d y3 a272_ b272_) ?_
  refine jt_bI (sp_X12_rings E d (jd_le hd rfl) a272_ b272_ hv272_ (FO_fr hg3 hf272_ rfl rfl (fun _ => rfl)) (FW_fr hg4 hf272_ rfl (fun _ => rfl))) (fun r273_ a273_ b273_ h273_ => ?_)
  obtain ⟨hv273_, hf273_, rfl, hq273_0, hq273_1⟩ := h273_
  have h274_ := iv_get hv273_ (k := 0) (j := 0) (l := 0) (u := 1999) rfl
  have h275_ : a273_ 0 0 = a272_ 0 0 := hf273_ 0 0 rfl
  have h276_ := iv_get hv272_ (k := 0) (j := 0) (l := 0) (u := 1999) rfl
  have h277_ : a272_ 0 0 = a 0 0 := hf272_ 0 0 rfl
  have h278_ := iv_get hv273_ (k := 146) (j := 0) (l := 0) (u := 1999) rfl
  have h279_ : a273_ 146 0 = a272_ 146 0 := hf273_ 146 0 rfl
  have h280_ := iv_get hv272_ (k := 146) (j := 0) (l := 0) (u := 1999) rfl
  have h281_ : a272_ 146 0 = a 146 0 := hf272_ 146 0 rfl
  exact hnext a273_ b272_ hv273_ (WFW_fr (WFW_fr hg0 hf272_ (fun _ => rfl) (fun _ => rfl)) hf273_ (fun _ => rfl) (fun _ => rfl)) (SV_fr (SV_fr hg1 hf272_ (fun _ => rfl) (fun _ => rfl)) hf273_ (fun _ => rfl) (fun _ => rfl)) (OC_fr (OC_fr hg2 hf272_ rfl rfl (fun _ => rfl) (fun _ => rfl) (fun _ => rfl) (fun _ => rfl) (fun _ => rfl)) hf273_ rfl rfl (fun _ => rfl) (fun _ => rfl) (fun _ => rfl) (fun _ => rfl) (fun _ => rfl)) hq273_0 hq273_1 (show a273_ 0 0 = a273_ 146 0 from by omega)
theorem lw_op869 (E : jxE) (d : Nat) (hd : Nat.ble 60 (d + 1) = true) (hL : E.1 ≤ 3072) (y3 : Int) (hy0 : 0 ≤ y3) (hy1 : y3 + 6 ≤ E.1) (hnext : ∀ (a b : Nat → Nat → Int) (hv : iv a) (hg0 : WFW a) (hg1 : SV a) (hg2 : OC a) (hg3 : FO a) (hg4 : FW a) (hr0 : a 0 0 = a 146 0), jt (jxX E d 305 1189 [some (.inr (.inr (.inl 3000))), some (.inr (.inr (.inl 0))), some (.inr (.inr (.inl 146))), some (.inl y3)] [] (jxSH, a, b)) (fun v _ _ => v = [.inl 1])) (a b : Nat → Nat → Int) (hv : iv a) (hg0 : WFW a) (hg1 : SV a) (hg2 : OC a) (hg3 : FO a) (hg4 : FW a) (hr0 : a 0 0 = a 146 0) : jt (jxX E d 305 869 [some (.inr (.inr (.inl 3000))), some (.inr (.inr (.inl 0))), some (.inr (.inr (.inl 146))), some (.inl y3)] [] (jxSH, a, b)) (fun v _ _ => v = [.inl 1]) := by
  refine jt_eq (bq_law_869 E d y3 a b) ?_
  have h282_ := iv_get hv (k := 0) (j := 0) (l := 0) (u := 1999) rfl
  have h283_ := iv_get hv (k := 146) (j := 0) (l := 0) (u := 1999) rfl
  refine jt_bif (Nat.ble_eq_true_of_le (by omega)) ?_
  have h284_ : jxw (y3 + 1) = y3 + 1 := jxw_id (by omega) (by omega)
  refine jt_grd (by omega) ?_
  refine jt_bif (Nat.ble_eq_true_of_le (by omega)) ?_
  have h285_ : jxw (y3 + 2) = y3 + 2 := jxw_id (by omega) (by omega)
  refine jt_grd (by omega) ?_
  refine jt_eI (eq_X11_ring E d (jd_le hd rfl) (E.2 ((jxw (y3 + 1)).toNat)) (E.2 ((jxw (y3 + 2)).toNat)) a b) ?_
  refine jt_eq (bq_law_884 E d y3 a b) ?_
  refine jt_bif (Nat.ble_eq_true_of_le (by omega)) ?_
  refine jt_grd (by omega) ?_
  refine jt_bif (Nat.ble_eq_true_of_le (by omega)) ?_
  refine jt_grd (by omega) ?_
  refine jt_eI (eq_X12_ring E d (jd_le hd rfl) (E.2 ((jxw (y3 + 1)).toNat)) (E.2 ((jxw (y3 + 2)).toNat)) a b hv) ?_
  exact hnext a b hv hg0 hg1 hg2 hg3 hg4 (show a 0 0 = a 146 0 from by omega)
theorem lw_op902 (E : jxE) (d : Nat) (hd : Nat.ble 60 (d + 1) = true) (hL : E.1 ≤ 3072) (y3 : Int) (hy0 : 0 ≤ y3) (hy1 : y3 + 6 ≤ E.1) (hnext : ∀ (a b : Nat → Nat → Int) (hv : iv a) (hg0 : WFW a) (hg1 : SV a) (hg2 : OC a) (hg3 : FO a) (hg4 : FW a) (hr0 : a 0 0 = a 146 0), jt (jxX E d 305 1189 [some (.inr (.inr (.inl 3000))), some (.inr (.inr (.inl 0))), some (.inr (.inr (.inl 146))), some (.inl y3)] [] (jxSH, a, b)) (fun v _ _ => v = [.inl 1])) (a b : Nat → Nat → Int) (hv : iv a) (hg0 : WFW a) (hg1 : SV a) (hg2 : OC a) (hg3 : FO a) (hg4 : FW a) (hr0 : a 0 0 = a 146 0) : jt (jxX E d 305 902 [some (.inr (.inr (.inl 3000))), some (.inr (.inr (.inl 0))), some (.inr (.inr (.inl 146))), some (.inl y3)] [] (jxSH, a, b)) (fun v _ _ => v = [.inl 1]) := by
  refine jt_eq (bq_law_902 E d y3 a b) ?_
  have h286_ := iv_get hv (k := 0) (j := 0) (l := 0) (u := 1999) rfl
  have h287_ := iv_get hv (k := 146) (j := 0) (l := 0) (u := 1999) rfl
  refine jt_bif (Nat.ble_eq_true_of_le (by omega)) ?_
  have h288_ : jxw (y3 + 1) = y3 + 1 := jxw_id (by omega) (by omega)
  refine jt_grd (by omega) ?_
  refine jt_bI (sp_X11_close E d (jd_le hd rfl) (E.2 ((jxw (y3 + 1)).toNat)) a b hv) (fun r289_ a289_ b289_ h289_ => ?_)
  obtain ⟨hv289_, hf289_, rfl⟩ := h289_
  refine jt_eq (bq_law_912 E d y3 a289_ b) ?_
  refine jt_bif (Nat.ble_eq_true_of_le (by omega)) ?_
  refine jt_grd (by omega) ?_
  refine jt_bI (sp_X12_close E d (jd_le hd rfl) (E.2 ((jxw (y3 + 1)).toNat)) a289_ b hv289_ (OC_fr hg2 hf289_ rfl rfl (fun _ => rfl) (fun _ => rfl) (fun _ => rfl) (fun _ => rfl) (fun _ => rfl)) (FO_fr hg3 hf289_ rfl rfl (fun _ => rfl))) (fun r290_ a290_ b290_ h290_ => ?_)
  obtain ⟨hv290_, hf290_, rfl, hq290_0⟩ := h290_
  have h291_ := iv_get hv290_ (k := 0) (j := 0) (l := 0) (u := 1999) rfl
  have h292_ : a290_ 0 0 = a289_ 0 0 := hf290_ 0 0 rfl
  have h293_ := iv_get hv289_ (k := 0) (j := 0) (l := 0) (u := 1999) rfl
  have h294_ : a289_ 0 0 = a 0 0 := hf289_ 0 0 rfl
  have h295_ := iv_get hv290_ (k := 146) (j := 0) (l := 0) (u := 1999) rfl
  have h296_ : a290_ 146 0 = a289_ 146 0 := hf290_ 146 0 rfl
  have h297_ := iv_get hv289_ (k := 146) (j := 0) (l := 0) (u := 1999) rfl
  have h298_ : a289_ 146 0 = a 146 0 := hf289_ 146 0 rfl
  exact hnext a290_ b hv290_ (WFW_fr (WFW_fr hg0 hf289_ (fun _ => rfl) (fun _ => rfl)) hf290_ (fun _ => rfl) (fun _ => rfl)) (SV_fr (SV_fr hg1 hf289_ (fun _ => rfl) (fun _ => rfl)) hf290_ (fun _ => rfl) (fun _ => rfl)) hq290_0 (FO_fr (FO_fr hg3 hf289_ rfl rfl (fun _ => rfl)) hf290_ rfl rfl (fun _ => rfl)) (FW_fr (FW_fr hg4 hf289_ rfl (fun _ => rfl)) hf290_ rfl (fun _ => rfl)) (show a290_ 0 0 = a290_ 146 0 from by omega)
theorem lw_op925 (E : jxE) (d : Nat) (hd : Nat.ble 60 (d + 1) = true) (hL : E.1 ≤ 3072) (y3 : Int) (hy0 : 0 ≤ y3) (hy1 : y3 + 6 ≤ E.1) (hnext : ∀ (a b : Nat → Nat → Int) (hv : iv a) (hg0 : WFW a) (hg1 : SV a) (hg2 : OC a) (hg3 : FO a) (hg4 : FW a) (hr0 : a 0 0 = a 146 0), jt (jxX E d 305 1189 [some (.inr (.inr (.inl 3000))), some (.inr (.inr (.inl 0))), some (.inr (.inr (.inl 146))), some (.inl y3)] [] (jxSH, a, b)) (fun v _ _ => v = [.inl 1])) (a b : Nat → Nat → Int) (hv : iv a) (hg0 : WFW a) (hg1 : SV a) (hg2 : OC a) (hg3 : FO a) (hg4 : FW a) (hr0 : a 0 0 = a 146 0) : jt (jxX E d 305 925 [some (.inr (.inr (.inl 3000))), some (.inr (.inr (.inl 0))), some (.inr (.inr (.inl 146))), some (.inl y3)] [] (jxSH, a, b)) (fun v _ _ => v = [.inl 1]) := by
  refine jt_eq (bq_law_925 E d y3 a b) ?_
  have h299_ := iv_get hv (k := 0) (j := 0) (l := 0) (u := 1999) rfl
  have h300_ := iv_get hv (k := 146) (j := 0) (l := 0) (u := 1999) rfl
  refine jt_bif (Nat.ble_eq_true_of_le (by omega)) ?_
  have h301_ : jxw (y3 + 1) = y3 + 1 := jxw_id (by omega) (by omega)
  refine jt_grd (by omega) ?_
  refine jt_bif (Nat.ble_eq_true_of_le (by omega)) ?_
  have h302_ : jxw (y3 + 2) = y3 + 2 := jxw_id (by omega) (by omega)
  refine jt_grd (by omega) ?_
  refine jt_bI (sp_X11_drop E d (jd_le hd rfl) (E.2 ((jxw (y3 + 1)).toNat)) (E.2 ((jxw (y3 + 2)).toNat)) a b hv) (fun r303_ a303_ b303_ h303_ => ?_)
  obtain ⟨hv303_, hf303_, rfl⟩ := h303_
  refine jt_eq (bq_law_940 E d y3 a303_ b) ?_
  refine jt_bif (Nat.ble_eq_true_of_le (by omega)) ?_
  refine jt_grd (by omega) ?_
  refine jt_bif (Nat.ble_eq_true_of_le (by omega)) ?_
  refine jt_grd (by omega) ?_
  refine jt_bI (sp_X12_drop E d (jd_le hd rfl) (E.2 ((jxw (y3 + 1)).toNat)) (E.2 ((jxw (y3 + 2)).toNat)) a303_ b hv303_ (OC_fr hg2 hf303_ rfl rfl (fun _ => rfl) (fun _ => rfl) (fun _ => rfl) (fun _ => rfl) (fun _ => rfl))) (fun r304_ a304_ b304_ h304_ => ?_)
  obtain ⟨hv304_, hf304_, rfl, hq304_0⟩ := h304_
  have h305_ := iv_get hv304_ (k := 0) (j := 0) (l := 0) (u := 1999) rfl
  have h306_ : a304_ 0 0 = a303_ 0 0 := hf304_ 0 0 rfl
  have h307_ := iv_get hv303_ (k := 0) (j := 0) (l := 0) (u := 1999) rfl
  have h308_ : a303_ 0 0 = a 0 0 := hf303_ 0 0 rfl
  have h309_ := iv_get hv304_ (k := 146) (j := 0) (l := 0) (u := 1999) rfl
  have h310_ : a304_ 146 0 = a303_ 146 0 := hf304_ 146 0 rfl
  have h311_ := iv_get hv303_ (k := 146) (j := 0) (l := 0) (u := 1999) rfl
  have h312_ : a303_ 146 0 = a 146 0 := hf303_ 146 0 rfl
  exact hnext a304_ b hv304_ (WFW_fr (WFW_fr hg0 hf303_ (fun _ => rfl) (fun _ => rfl)) hf304_ (fun _ => rfl) (fun _ => rfl)) (SV_fr (SV_fr hg1 hf303_ (fun _ => rfl) (fun _ => rfl)) hf304_ (fun _ => rfl) (fun _ => rfl)) hq304_0 (FO_fr (FO_fr hg3 hf303_ rfl rfl (fun _ => rfl)) hf304_ rfl rfl (fun _ => rfl)) (FW_fr (FW_fr hg4 hf303_ rfl (fun _ => rfl)) hf304_ rfl (fun _ => rfl)) (show a304_ 0 0 = a304_ 146 0 from by omega)
theorem lw_op958 (E : jxE) (d : Nat) (hd : Nat.ble 60 (d + 1) = true) (hL : E.1 ≤ 3072) (y3 : Int) (hy0 : 0 ≤ y3) (hy1 : y3 + 6 ≤ E.1) (hnext : ∀ (a b : Nat → Nat → Int) (hv : iv a) (hg0 : WFW a) (hg1 : SV a) (hg2 : OC a) (hg3 : FO a) (hg4 : FW a) (hr0 : a 0 0 = a 146 0), jt (jxX E d 305 1189 [some (.inr (.inr (.inl 3000))), some (.inr (.inr (.inl 0))), some (.inr (.inr (.inl 146))), some (.inl y3)] [] (jxSH, a, b)) (fun v _ _ => v = [.inl 1])) (a b : Nat → Nat → Int) (hv : iv a) (hg0 : WFW a) (hg1 : SV a) (hg2 : OC a) (hg3 : FO a) (hg4 : FW a) (hr0 : a 0 0 = a 146 0) : jt (jxX E d 305 958 [some (.inr (.inr (.inl 3000))), some (.inr (.inr (.inl 0))), some (.inr (.inr (.inl 146))), some (.inl y3)] [] (jxSH, a, b)) (fun v _ _ => v = [.inl 1]) := by
  refine jt_eq (bq_law_958 E d y3 a b) ?_
  have h313_ := iv_get hv (k := 0) (j := 0) (l := 0) (u := 1999) rfl
  have h314_ := iv_get hv (k := 146) (j := 0) (l := 0) (u := 1999) rfl
  refine jt_bif (Nat.ble_eq_true_of_le (by omega)) ?_
  have h315_ : jxw (y3 + 1) = y3 + 1 := jxw_id (by omega) (by omega)
  refine jt_grd (by omega) ?_
  refine jt_bif (Nat.ble_eq_true_of_le (by omega)) ?_
  have h316_ : jxw (y3 + 2) = y3 + 2 := jxw_id (by omega) (by omega)
  refine jt_grd (by omega) ?_
  refine jt_eI (eq_X11_offers E d (jd_le hd rfl) (E.2 ((jxw (y3 + 1)).toNat)) (E.2 ((jxw (y3 + 2)).toNat)) a b) ?_
  refine jt_eq (bq_law_973 E d y3 a b) ?_
  refine jt_bif (Nat.ble_eq_true_of_le (by omega)) ?_
  refine jt_grd (by omega) ?_
  refine jt_bif (Nat.ble_eq_true_of_le (by omega)) ?_
  refine jt_grd (by omega) ?_
  refine jt_eI (eq_X12_offers E d (jd_le hd rfl) (E.2 ((jxw (y3 + 1)).toNat)) (E.2 ((jxw (y3 + 2)).toNat)) a b hv) ?_
  exact hnext a b hv hg0 hg1 hg2 hg3 hg4 (show a 0 0 = a 146 0 from by omega)
theorem lw_op991 (E : jxE) (d : Nat) (hd : Nat.ble 60 (d + 1) = true) (hL : E.1 ≤ 3072) (y3 : Int) (hy0 : 0 ≤ y3) (hy1 : y3 + 6 ≤ E.1) (hnext : ∀ (a b : Nat → Nat → Int) (hv : iv a) (hg0 : WFW a) (hg1 : SV a) (hg2 : OC a) (hg3 : FO a) (hg4 : FW a) (hr0 : a 0 0 = a 146 0), jt (jxX E d 305 1189 [some (.inr (.inr (.inl 3000))), some (.inr (.inr (.inl 0))), some (.inr (.inr (.inl 146))), some (.inl y3)] [] (jxSH, a, b)) (fun v _ _ => v = [.inl 1])) (a b : Nat → Nat → Int) (hv : iv a) (hg0 : WFW a) (hg1 : SV a) (hg2 : OC a) (hg3 : FO a) (hg4 : FW a) (hr0 : a 0 0 = a 146 0) : jt (jxX E d 305 991 [some (.inr (.inr (.inl 3000))), some (.inr (.inr (.inl 0))), some (.inr (.inr (.inl 146))), some (.inl y3)] [] (jxSH, a, b)) (fun v _ _ => v = [.inl 1]) := by
  refine jt_eq (bq_law_991 E d y3 a b) ?_
  have h317_ := iv_get hv (k := 0) (j := 0) (l := 0) (u := 1999) rfl
  have h318_ := iv_get hv (k := 146) (j := 0) (l := 0) (u := 1999) rfl
  refine jt_bif (Nat.ble_eq_true_of_le (by omega)) ?_
  have h319_ : jxw (y3 + 1) = y3 + 1 := jxw_id (by omega) (by omega)
  refine jt_grd (by omega) ?_
  refine jt_bI (sp_X11_rates E d (jd_le hd rfl) (E.2 ((jxw (y3 + 1)).toNat)) a b hv) (fun r320_ a320_ b320_ h320_ => ?_)
  obtain ⟨hv320_, hf320_, rfl⟩ := h320_
  refine jt_eq (bq_law_1001 E d y3 a320_ b) ?_
  refine jt_bif (Nat.ble_eq_true_of_le (by omega)) ?_
  refine jt_grd (by omega) ?_
  refine jt_bI (sp_X12_rates E d (jd_le hd rfl) (E.2 ((jxw (y3 + 1)).toNat)) a320_ b hv320_) (fun r321_ a321_ b321_ h321_ => ?_)
  obtain ⟨hv321_, hf321_, rfl⟩ := h321_
  have h322_ := iv_get hv321_ (k := 0) (j := 0) (l := 0) (u := 1999) rfl
  have h323_ : a321_ 0 0 = a320_ 0 0 := hf321_ 0 0 rfl
  have h324_ := iv_get hv320_ (k := 0) (j := 0) (l := 0) (u := 1999) rfl
  have h325_ : a320_ 0 0 = a 0 0 := hf320_ 0 0 rfl
  have h326_ := iv_get hv321_ (k := 146) (j := 0) (l := 0) (u := 1999) rfl
  have h327_ : a321_ 146 0 = a320_ 146 0 := hf321_ 146 0 rfl
  have h328_ := iv_get hv320_ (k := 146) (j := 0) (l := 0) (u := 1999) rfl
  have h329_ : a320_ 146 0 = a 146 0 := hf320_ 146 0 rfl
  exact hnext a321_ b hv321_ (WFW_fr (WFW_fr hg0 hf320_ (fun _ => rfl) (fun _ => rfl)) hf321_ (fun _ => rfl) (fun _ => rfl)) (SV_fr (SV_fr hg1 hf320_ (fun _ => rfl) (fun _ => rfl)) hf321_ (fun _ => rfl) (fun _ => rfl)) (OC_fr (OC_fr hg2 hf320_ rfl rfl (fun _ => rfl) (fun _ => rfl) (fun _ => rfl) (fun _ => rfl) (fun _ => rfl)) hf321_ rfl rfl (fun _ => rfl) (fun _ => rfl) (fun _ => rfl) (fun _ => rfl) (fun _ => rfl)) (FO_fr (FO_fr hg3 hf320_ rfl rfl (fun _ => rfl)) hf321_ rfl rfl (fun _ => rfl)) (FW_fr (FW_fr hg4 hf320_ rfl (fun _ => rfl)) hf321_ rfl (fun _ => rfl)) (show a321_ 0 0 = a321_ 146 0 from by omega)
theorem lw_op1014 (E : jxE) (d : Nat) (hd : Nat.ble 60 (d + 1) = true) (hL : E.1 ≤ 3072) (y3 : Int) (hy0 : 0 ≤ y3) (hy1 : y3 + 6 ≤ E.1) (hnext : ∀ (a b : Nat → Nat → Int) (hv : iv a) (hg0 : WFW a) (hg1 : SV a) (hg2 : OC a) (hg3 : FO a) (hg4 : FW a) (hr0 : a 0 0 = a 146 0), jt (jxX E d 305 1189 [some (.inr (.inr (.inl 3000))), some (.inr (.inr (.inl 0))), some (.inr (.inr (.inl 146))), some (.inl y3)] [] (jxSH, a, b)) (fun v _ _ => v = [.inl 1])) (a b : Nat → Nat → Int) (hv : iv a) (hg0 : WFW a) (hg1 : SV a) (hg2 : OC a) (hg3 : FO a) (hg4 : FW a) (hr0 : a 0 0 = a 146 0) : jt (jxX E d 305 1014 [some (.inr (.inr (.inl 3000))), some (.inr (.inr (.inl 0))), some (.inr (.inr (.inl 146))), some (.inl y3)] [] (jxSH, a, b)) (fun v _ _ => v = [.inl 1]) := by
  refine jt_eq (bq_law_1014 E d y3 a b) ?_
  have h330_ := iv_get hv (k := 0) (j := 0) (l := 0) (u := 1999) rfl
  have h331_ := iv_get hv (k := 146) (j := 0) (l := 0) (u := 1999) rfl
  refine jt_bif (Nat.ble_eq_true_of_le (by omega)) ?_
  have h332_ : jxw (y3 + 1) = y3 + 1 := jxw_id (by omega) (by omega)
  refine jt_grd (by omega) ?_
  refine jt_bif (Nat.ble_eq_true_of_le (by omega)) ?_
  have h333_ : jxw (y3 + 2) = y3 + 2 := jxw_id (by omega) (by omega)
  refine jt_grd (by omega) ?_
  refine jt_bif (Nat.ble_eq_true_of_le (by omega)) ?_
  have h334_ : jxw (y3 + 3) = y3 + 3 := jxw_id (by omega) (by omega)
  refine jt_grd (by omega) ?_
  refine jt_bif (Nat.ble_eq_true_of_le (by omega)) ?_
  have h335_ : jxw (y3 + 4) = y3 + 4 := jxw_id (by omega) (by omega)
  refine jt_grd (by omega) ?_
  refine jt_bI (sp_X11_price E d (jd_le hd rfl) (E.2 ((jxw (y3 + 1)).toNat)) (E.2 ((jxw (y3 + 2)).toNat)) (E.2 ((jxw (y3 + 3)).toNat)) (E.2 ((jxw (y3 + 4)).toNat)) a b hv) (fun r336_ a336_ b336_ h336_ => ?_)
  obtain ⟨rfl, rfl⟩ := h336_
  refine jt_eq (bq_law_1039 E d y3 a b) ?_
  refine jt_bif (Nat.ble_eq_true_of_le (by omega)) ?_
  refine jt_grd (by omega) ?_
  refine jt_bif (Nat.ble_eq_true_of_le (by omega)) ?_
  refine jt_grd (by omega) ?_
  refine jt_bif (Nat.ble_eq_true_of_le (by omega)) ?_
  refine jt_grd (by omega) ?_
  refine jt_bif (Nat.ble_eq_true_of_le (by omega)) ?_
  refine jt_grd (by omega) ?_
  refine jt_bI (sp_X12_price E d (jd_le hd rfl) (E.2 ((jxw (y3 + 1)).toNat)) (E.2 ((jxw (y3 + 2)).toNat)) (E.2 ((jxw (y3 + 3)).toNat)) (E.2 ((jxw (y3 + 4)).toNat)) a b hv) (fun r337_ a337_ b337_ h337_ => ?_)
  obtain ⟨rfl, rfl⟩ := h337_
  refine jt_eq (bq_law_1064 E d y3 a b) ?_
  exact hnext a b hv hg0 hg1 hg2 hg3 hg4 (show a 0 0 = a 146 0 from by omega)
theorem lw_op1067 (E : jxE) (d : Nat) (hd : Nat.ble 60 (d + 1) = true) (hL : E.1 ≤ 3072) (y3 : Int) (hy0 : 0 ≤ y3) (hy1 : y3 + 6 ≤ E.1) (hnext : ∀ (a b : Nat → Nat → Int) (hv : iv a) (hg0 : WFW a) (hg1 : SV a) (hg2 : OC a) (hg3 : FO a) (hg4 : FW a) (hr0 : a 0 0 = a 146 0), jt (jxX E d 305 1189 [some (.inr (.inr (.inl 3000))), some (.inr (.inr (.inl 0))), some (.inr (.inr (.inl 146))), some (.inl y3)] [] (jxSH, a, b)) (fun v _ _ => v = [.inl 1])) (a b : Nat → Nat → Int) (hv : iv a) (hg0 : WFW a) (hg1 : SV a) (hg2 : OC a) (hg3 : FO a) (hg4 : FW a) (hr0 : a 0 0 = a 146 0) : jt (jxX E d 305 1067 [some (.inr (.inr (.inl 3000))), some (.inr (.inr (.inl 0))), some (.inr (.inr (.inl 146))), some (.inl y3)] [] (jxSH, a, b)) (fun v _ _ => v = [.inl 1]) := by
  refine jt_eq (bq_law_1067 E d y3 a b) ?_
  have h338_ := iv_get hv (k := 0) (j := 0) (l := 0) (u := 1999) rfl
  have h339_ := iv_get hv (k := 146) (j := 0) (l := 0) (u := 1999) rfl
  refine jt_bif (Nat.ble_eq_true_of_le (by omega)) ?_
  have h340_ : jxw (y3 + 1) = y3 + 1 := jxw_id (by omega) (by omega)
  refine jt_grd (by omega) ?_
  refine jt_bif (Nat.ble_eq_true_of_le (by omega)) ?_
  have h341_ : jxw (y3 + 2) = y3 + 2 := jxw_id (by omega) (by omega)
  refine jt_grd (by omega) ?_
  refine jt_bif (Nat.ble_eq_true_of_le (by omega)) ?_
  have h342_ : jxw (y3 + 3) = y3 + 3 := jxw_id (by omega) (by omega)
  refine jt_grd (by omega) ?_
  refine jt_bI (sp_X11_stamps E d (jd_le hd rfl) (E.2 ((jxw (y3 + 1)).toNat)) (E.2 ((jxw (y3 + 2)).toNat)) (E.2 ((jxw (y3 + 3)).toNat)) a b hv) (fun r343_ a343_ b343_ h343_ => ?_)
  obtain ⟨hv343_, hf343_, rfl, hq343_0⟩ := h343_
  refine jt_eq (bq_law_1087 E d y3 a343_ b) ?_
  refine jt_bif (Nat.ble_eq_true_of_le (by omega)) ?_
  refine jt_grd (by omega) ?_
  refine jt_bif (Nat.ble_eq_true_of_le (by omega)) ?_
  refine jt_grd (by omega) ?_
  refine jt_bif (Nat.ble_eq_true_of_le (by omega)) ?_
  refine jt_grd (by omega) ?_
  refine jt_bI (sp_X12_stamps E d (jd_le hd rfl) (E.2 ((jxw (y3 + 1)).toNat)) (E.2 ((jxw (y3 + 2)).toNat)) (E.2 ((jxw (y3 + 3)).toNat)) a343_ b hv343_ (SV_fr hg1 hf343_ (fun _ => rfl) (fun _ => rfl))) (fun r344_ a344_ b344_ h344_ => ?_)
  obtain ⟨hv344_, hf344_, rfl, hq344_0, hq344_1⟩ := h344_
  refine jt_eq (bq_law_1107 E d y3 a344_ b) ?_
  have h345_ := iv_get hv344_ (k := 0) (j := 0) (l := 0) (u := 1999) rfl
  have h346_ : a344_ 0 0 = a343_ 0 0 := hf344_ 0 0 rfl
  have h347_ := iv_get hv343_ (k := 0) (j := 0) (l := 0) (u := 1999) rfl
  have h348_ : a343_ 0 0 = a 0 0 := hf343_ 0 0 rfl
  have h349_ := iv_get hv344_ (k := 146) (j := 0) (l := 0) (u := 1999) rfl
  have h350_ : a344_ 146 0 = a343_ 146 0 := hf344_ 146 0 rfl
  have h351_ := iv_get hv343_ (k := 146) (j := 0) (l := 0) (u := 1999) rfl
  have h352_ : a343_ 146 0 = a 146 0 := hf343_ 146 0 rfl
  exact hnext a344_ b hv344_ (WFW_fr (WFW_fr hg0 hf343_ (fun _ => rfl) (fun _ => rfl)) hf344_ (fun _ => rfl) (fun _ => rfl)) hq344_1 (OC_fr (OC_fr hg2 hf343_ rfl rfl (fun _ => rfl) (fun _ => rfl) (fun _ => rfl) (fun _ => rfl) (fun _ => rfl)) hf344_ rfl rfl (fun _ => rfl) (fun _ => rfl) (fun _ => rfl) (fun _ => rfl) (fun _ => rfl)) (FO_fr (FO_fr hg3 hf343_ rfl rfl (fun _ => rfl)) hf344_ rfl rfl (fun _ => rfl)) (FW_fr (FW_fr hg4 hf343_ rfl (fun _ => rfl)) hf344_ rfl (fun _ => rfl)) (show a344_ 0 0 = a344_ 146 0 from by omega)
theorem lw_op1110 (E : jxE) (d : Nat) (hd : Nat.ble 60 (d + 1) = true) (hL : E.1 ≤ 3072) (y3 : Int) (hy0 : 0 ≤ y3) (hy1 : y3 + 6 ≤ E.1) (hnext : ∀ (a b : Nat → Nat → Int) (hv : iv a) (hg0 : WFW a) (hg1 : SV a) (hg2 : OC a) (hg3 : FO a) (hg4 : FW a) (hr0 : a 0 0 = a 146 0), jt (jxX E d 305 1189 [some (.inr (.inr (.inl 3000))), some (.inr (.inr (.inl 0))), some (.inr (.inr (.inl 146))), some (.inl y3)] [] (jxSH, a, b)) (fun v _ _ => v = [.inl 1])) (a b : Nat → Nat → Int) (hv : iv a) (hg0 : WFW a) (hg1 : SV a) (hg2 : OC a) (hg3 : FO a) (hg4 : FW a) (hr0 : a 0 0 = a 146 0) : jt (jxX E d 305 1110 [some (.inr (.inr (.inl 3000))), some (.inr (.inr (.inl 0))), some (.inr (.inr (.inl 146))), some (.inl y3)] [] (jxSH, a, b)) (fun v _ _ => v = [.inl 1]) := by
  refine jt_eq (bq_law_1110 E d y3 a b) ?_
  have h353_ := iv_get hv (k := 0) (j := 0) (l := 0) (u := 1999) rfl
  have h354_ := iv_get hv (k := 146) (j := 0) (l := 0) (u := 1999) rfl
  refine jt_bif (Nat.ble_eq_true_of_le (by omega)) ?_
  have h355_ : jxw (y3 + 1) = y3 + 1 := jxw_id (by omega) (by omega)
  refine jt_grd (by omega) ?_
  refine jt_bif (Nat.ble_eq_true_of_le (by omega)) ?_
  have h356_ : jxw (y3 + 2) = y3 + 2 := jxw_id (by omega) (by omega)
  refine jt_grd (by omega) ?_
  refine jt_bI (sp_X11_pay E d (jd_le hd rfl) (E.2 ((jxw (y3 + 1)).toNat)) (E.2 ((jxw (y3 + 2)).toNat)) a b hv) (fun r357_ a357_ b357_ h357_ => ?_)
  obtain ⟨hv357_, hf357_⟩ := h357_
  refine jt_eq (bq_law_1125 E d y3 a357_ b357_) ?_
  refine jt_bif (Nat.ble_eq_true_of_le (by omega)) ?_
  refine jt_grd (by omega) ?_
  refine jt_bif (Nat.ble_eq_true_of_le (by omega)) ?_
  refine jt_grd (by omega) ?_
  refine jt_bI (sp_X12_pay E d (jd_le hd rfl) (E.2 ((jxw (y3 + 1)).toNat)) (E.2 ((jxw (y3 + 2)).toNat)) a357_ b357_ hv357_ (SV_fr hg1 hf357_ (fun _ => rfl) (fun _ => rfl))) (fun r358_ a358_ b358_ h358_ => ?_)
  obtain ⟨hv358_, hf358_, rfl, hq358_0⟩ := h358_
  have h359_ := iv_get hv358_ (k := 0) (j := 0) (l := 0) (u := 1999) rfl
  have h360_ : a358_ 0 0 = a357_ 0 0 := hf358_ 0 0 rfl
  have h361_ := iv_get hv357_ (k := 0) (j := 0) (l := 0) (u := 1999) rfl
  have h362_ : a357_ 0 0 = a 0 0 := hf357_ 0 0 rfl
  have h363_ := iv_get hv358_ (k := 146) (j := 0) (l := 0) (u := 1999) rfl
  have h364_ : a358_ 146 0 = a357_ 146 0 := hf358_ 146 0 rfl
  have h365_ := iv_get hv357_ (k := 146) (j := 0) (l := 0) (u := 1999) rfl
  have h366_ : a357_ 146 0 = a 146 0 := hf357_ 146 0 rfl
  exact hnext a358_ b357_ hv358_ (WFW_fr (WFW_fr hg0 hf357_ (fun _ => rfl) (fun _ => rfl)) hf358_ (fun _ => rfl) (fun _ => rfl)) hq358_0 (OC_fr (OC_fr hg2 hf357_ rfl rfl (fun _ => rfl) (fun _ => rfl) (fun _ => rfl) (fun _ => rfl) (fun _ => rfl)) hf358_ rfl rfl (fun _ => rfl) (fun _ => rfl) (fun _ => rfl) (fun _ => rfl) (fun _ => rfl)) (FO_fr (FO_fr hg3 hf357_ rfl rfl (fun _ => rfl)) hf358_ rfl rfl (fun _ => rfl)) (FW_fr (FW_fr hg4 hf357_ rfl (fun _ => rfl)) hf358_ rfl (fun _ => rfl)) (show a358_ 0 0 = a358_ 146 0 from by omega)
theorem lw_op1143 (E : jxE) (d : Nat) (hd : Nat.ble 60 (d + 1) = true) (hL : E.1 ≤ 3072) (y3 : Int) (hy0 : 0 ≤ y3) (hy1 : y3 + 6 ≤ E.1) (hnext : ∀ (a b : Nat → Nat → Int) (hv : iv a) (hg0 : WFW a) (hg1 : SV a) (hg2 : OC a) (hg3 : FO a) (hg4 : FW a) (hr0 : a 0 0 = a 146 0), jt (jxX E d 305 1189 [some (.inr (.inr (.inl 3000))), some (.inr (.inr (.inl 0))), some (.inr (.inr (.inl 146))), some (.inl y3)] [] (jxSH, a, b)) (fun v _ _ => v = [.inl 1])) (a b : Nat → Nat → Int) (hv : iv a) (hg0 : WFW a) (hg1 : SV a) (hg2 : OC a) (hg3 : FO a) (hg4 : FW a) (hr0 : a 0 0 = a 146 0) : jt (jxX E d 305 1143 [some (.inr (.inr (.inl 3000))), some (.inr (.inr (.inl 0))), some (.inr (.inr (.inl 146))), some (.inl y3)] [] (jxSH, a, b)) (fun v _ _ => v = [.inl 1]) := by
  refine jt_eq (bq_law_1143 E d y3 a b) ?_
  have h367_ := iv_get hv (k := 0) (j := 0) (l := 0) (u := 1999) rfl
  have h368_ := iv_get hv (k := 146) (j := 0) (l := 0) (u := 1999) rfl
  refine jt_bif (Nat.ble_eq_true_of_le (by omega)) ?_
  have h369_ : jxw (y3 + 1) = y3 + 1 := jxw_id (by omega) (by omega)
  refine jt_grd (by omega) ?_
  refine jt_eI (eq_X11_paid E d (jd_le hd rfl) (E.2 ((jxw (y3 + 1)).toNat)) a b) ?_
  refine jt_eq (bq_law_1153 E d y3 a b) ?_
  refine jt_bif (Nat.ble_eq_true_of_le (by omega)) ?_
  refine jt_grd (by omega) ?_
  refine jt_eI (eq_X12_paid E d (jd_le hd rfl) (E.2 ((jxw (y3 + 1)).toNat)) a b) ?_
  exact hnext a b hv hg0 hg1 hg2 hg3 hg4 (show a 0 0 = a 146 0 from by omega)
theorem lw_op1166 (E : jxE) (d : Nat) (hd : Nat.ble 60 (d + 1) = true) (hL : E.1 ≤ 3072) (y3 : Int) (hy0 : 0 ≤ y3) (hy1 : y3 + 6 ≤ E.1) (hnext : ∀ (a b : Nat → Nat → Int) (hv : iv a) (hg0 : WFW a) (hg1 : SV a) (hg2 : OC a) (hg3 : FO a) (hg4 : FW a) (hr0 : a 0 0 = a 146 0), jt (jxX E d 305 1189 [some (.inr (.inr (.inl 3000))), some (.inr (.inr (.inl 0))), some (.inr (.inr (.inl 146))), some (.inl y3)] [] (jxSH, a, b)) (fun v _ _ => v = [.inl 1])) (a b : Nat → Nat → Int) (hv : iv a) (hg0 : WFW a) (hg1 : SV a) (hg2 : OC a) (hg3 : FO a) (hg4 : FW a) (hr0 : a 0 0 = a 146 0) : jt (jxX E d 305 1166 [some (.inr (.inr (.inl 3000))), some (.inr (.inr (.inl 0))), some (.inr (.inr (.inl 146))), some (.inl y3)] [] (jxSH, a, b)) (fun v _ _ => v = [.inl 1]) := by
  refine jt_eq (bq_law_1166 E d y3 a b) ?_
  have h370_ := iv_get hv (k := 0) (j := 0) (l := 0) (u := 1999) rfl
  have h371_ := iv_get hv (k := 146) (j := 0) (l := 0) (u := 1999) rfl
  refine jt_bif (Nat.ble_eq_true_of_le (by omega)) ?_
  have h372_ : jxw (y3 + 1) = y3 + 1 := jxw_id (by omega) (by omega)
  refine jt_grd (by omega) ?_
  refine jt_bI (sp_X11_count E d (jd_le hd rfl) (E.2 ((jxw (y3 + 1)).toNat)) a b hv) (fun r373_ a373_ b373_ h373_ => ?_)
  obtain ⟨rfl, rfl⟩ := h373_
  refine jt_eq (bq_law_1176 E d y3 a b) ?_
  refine jt_bif (Nat.ble_eq_true_of_le (by omega)) ?_
  refine jt_grd (by omega) ?_
  refine jt_bI (sp_X12_count E d (jd_le hd rfl) (E.2 ((jxw (y3 + 1)).toNat)) a b hv) (fun r374_ a374_ b374_ h374_ => ?_)
  obtain ⟨rfl, rfl⟩ := h374_
  exact hnext a b hv hg0 hg1 hg2 hg3 hg4 (show a 0 0 = a 146 0 from by omega)
theorem lw_18 (E : jxE) (d : Nat) (hd : Nat.ble 60 (d + 1) = true) (hL : E.1 ≤ 3072) : ∀ n : Nat, ∀ (y3 : Int) (a b : Nat → Nat → Int), ((E.1 : Int) - y3).toNat ≤ n → 0 ≤ y3 → y3 ≤ 3078 → iv a → WFW a → SV a → OC a → FO a → FW a → a 0 0 = a 146 0 → jt (jxX E d 305 18 [some (.inr (.inr (.inl 3000))), some (.inr (.inr (.inl 0))), some (.inr (.inr (.inl 146))), some (.inl y3)] [] (jxSH, a, b)) (fun v _ _ => v = [.inl 1]) := by
  refine jx_ind fun n ih => ?_
  intro y3 a b hm hy0 hy9 hv hg0 hg1 hg2 hg3 hg4 hr0
  refine jt_eq (bq_law_18 E d y3 a b) ?_
  have hnext0 : y3 + 6 ≤ E.1 → ∀ (a b : Nat → Nat → Int) (hv : iv a) (hg0 : WFW a) (hg1 : SV a) (hg2 : OC a) (hg3 : FO a) (hg4 : FW a) (hr0 : a 0 0 = a 146 0), jt (jxX E d 305 1189 [some (.inr (.inr (.inl 3000))), some (.inr (.inr (.inl 0))), some (.inr (.inr (.inl 146))), some (.inl y3)] [] (jxSH, a, b)) (fun v _ _ => v = [.inl 1]) := fun hlt a b hv hg0 hg1 hg2 hg3 hg4 hr0 => by
    refine jt_eq (bq_law_1189 E d y3 a b) ?_
    have e : jxw (y3 + 6) = y3 + 6 := jxw_id (by omega) (by omega)
    rw [e]
    exact ih ((E.1 : Int) - (y3 + 6)).toNat (by omega) (y3 + 6) a b (Nat.le_refl _) (by omega) (by omega) hv hg0 hg1 hg2 hg3 hg4 hr0
  refine jt_bif (Nat.ble_eq_true_of_le (by omega)) ?_
  have e6 : jxw ((E.1 : Int) - 6) = (E.1 : Int) - 6 := jxw_id (by omega) (by omega)
  refine jt_ite (fun c1 => ?_) (fun c1 => ?_)
  · exact ⟨_, _, _, rfl, rfl⟩
  ·
    have hy1 : y3 + 6 ≤ E.1 := by omega
    have hnext := hnext0 hy1
    refine jt_bif (Nat.ble_eq_true_of_le (by omega)) ?_
    refine jt_grd (by omega) ?_
    have h375_ := jxand_r (E.2 (y3.toNat)) 63 (by decide) (by decide)
    refine jt_ite (fun c376_ => ?_) (fun c376_ => ?_)
    ·
      have h377_ := iv_get hv (k := 0) (j := 0) (l := 0) (u := 1999) rfl
      have h378_ := iv_get hv (k := 146) (j := 0) (l := 0) (u := 1999) rfl
      exact hnext a b hv hg0 hg1 hg2 hg3 hg4 (show a 0 0 = a 146 0 from by omega)
    ·
      refine jt_ite (fun c379_ => ?_) (fun c379_ => ?_)
      ·
        have h380_ := iv_get hv (k := 0) (j := 0) (l := 0) (u := 1999) rfl
        have h381_ := iv_get hv (k := 146) (j := 0) (l := 0) (u := 1999) rfl
        exact lw_op180 E d hd hL y3 hy0 (by omega) hnext a b hv hg0 hg1 hg2 hg3 hg4 (show a 0 0 = a 146 0 from by omega)
      ·
        refine jt_ite (fun c382_ => ?_) (fun c382_ => ?_)
        ·
          have h383_ := iv_get hv (k := 0) (j := 0) (l := 0) (u := 1999) rfl
          have h384_ := iv_get hv (k := 146) (j := 0) (l := 0) (u := 1999) rfl
          exact lw_op203 E d hd hL y3 hy0 (by omega) hnext a b hv hg0 hg1 hg2 hg3 hg4 (show a 0 0 = a 146 0 from by omega)
        ·
          refine jt_ite (fun c385_ => ?_) (fun c385_ => ?_)
          ·
            have h386_ := iv_get hv (k := 0) (j := 0) (l := 0) (u := 1999) rfl
            have h387_ := iv_get hv (k := 146) (j := 0) (l := 0) (u := 1999) rfl
            exact lw_op246 E d hd hL y3 hy0 (by omega) hnext a b hv hg0 hg1 hg2 hg3 hg4 (show a 0 0 = a 146 0 from by omega)
          ·
            refine jt_ite (fun c388_ => ?_) (fun c388_ => ?_)
            ·
              have h389_ := iv_get hv (k := 0) (j := 0) (l := 0) (u := 1999) rfl
              have h390_ := iv_get hv (k := 146) (j := 0) (l := 0) (u := 1999) rfl
              exact lw_op289 E d hd hL y3 hy0 (by omega) hnext a b hv hg0 hg1 hg2 hg3 hg4 (show a 0 0 = a 146 0 from by omega)
            ·
              refine jt_ite (fun c391_ => ?_) (fun c391_ => ?_)
              ·
                have h392_ := iv_get hv (k := 0) (j := 0) (l := 0) (u := 1999) rfl
                have h393_ := iv_get hv (k := 146) (j := 0) (l := 0) (u := 1999) rfl
                exact lw_op312 E d hd hL y3 hy0 (by omega) hnext a b hv hg0 hg1 hg2 hg3 hg4 (show a 0 0 = a 146 0 from by omega)
              ·
                refine jt_ite (fun c394_ => ?_) (fun c394_ => ?_)
                ·
                  have h395_ := iv_get hv (k := 0) (j := 0) (l := 0) (u := 1999) rfl
                  have h396_ := iv_get hv (k := 146) (j := 0) (l := 0) (u := 1999) rfl
                  exact lw_op375 E d hd hL y3 hy0 (by omega) hnext a b hv hg0 hg1 hg2 hg3 hg4 (show a 0 0 = a 146 0 from by omega)
                ·
                  refine jt_ite (fun c397_ => ?_) (fun c397_ => ?_)
                  ·
                    have h398_ := iv_get hv (k := 0) (j := 0) (l := 0) (u := 1999) rfl
                    have h399_ := iv_get hv (k := 146) (j := 0) (l := 0) (u := 1999) rfl
                    exact lw_op398 E d hd hL y3 hy0 (by omega) hnext a b hv hg0 hg1 hg2 hg3 hg4 (show a 0 0 = a 146 0 from by omega)
                  ·
                    refine jt_ite (fun c400_ => ?_) (fun c400_ => ?_)
                    ·
                      have h401_ := iv_get hv (k := 0) (j := 0) (l := 0) (u := 1999) rfl
                      have h402_ := iv_get hv (k := 146) (j := 0) (l := 0) (u := 1999) rfl
                      exact lw_op421 E d hd hL y3 hy0 (by omega) hnext a b hv hg0 hg1 hg2 hg3 hg4 (show a 0 0 = a 146 0 from by omega)
                    ·
                      refine jt_ite (fun c403_ => ?_) (fun c403_ => ?_)
                      ·
                        have h404_ := iv_get hv (k := 0) (j := 0) (l := 0) (u := 1999) rfl
                        have h405_ := iv_get hv (k := 146) (j := 0) (l := 0) (u := 1999) rfl
                        exact lw_op454 E d hd hL y3 hy0 (by omega) hnext a b hv hg0 hg1 hg2 hg3 hg4 (show a 0 0 = a 146 0 from by omega)
                      ·
                        refine jt_ite (fun c406_ => ?_) (fun c406_ => ?_)
                        ·
                          have h407_ := iv_get hv (k := 0) (j := 0) (l := 0) (u := 1999) rfl
                          have h408_ := iv_get hv (k := 146) (j := 0) (l := 0) (u := 1999) rfl
                          exact lw_op467 E d hd hL y3 hy0 (by omega) hnext a b hv hg0 hg1 hg2 hg3 hg4 (show a 0 0 = a 146 0 from by omega)
                        ·
                          refine jt_ite (fun c409_ => ?_) (fun c409_ => ?_)
                          ·
                            have h410_ := iv_get hv (k := 0) (j := 0) (l := 0) (u := 1999) rfl
                            have h411_ := iv_get hv (k := 146) (j := 0) (l := 0) (u := 1999) rfl
                            exact lw_op490 E d hd hL y3 hy0 (by omega) hnext a b hv hg0 hg1 hg2 hg3 hg4 (show a 0 0 = a 146 0 from by omega)
                          ·
                            refine jt_ite (fun c412_ => ?_) (fun c412_ => ?_)
                            ·
                              have h413_ := iv_get hv (k := 0) (j := 0) (l := 0) (u := 1999) rfl
                              have h414_ := iv_get hv (k := 146) (j := 0) (l := 0) (u := 1999) rfl
                              exact lw_op523 E d hd hL y3 hy0 (by omega) hnext a b hv hg0 hg1 hg2 hg3 hg4 (show a 0 0 = a 146 0 from by omega)
                            ·
                              refine jt_ite (fun c415_ => ?_) (fun c415_ => ?_)
                              ·
                                have h416_ := iv_get hv (k := 0) (j := 0) (l := 0) (u := 1999) rfl
                                have h417_ := iv_get hv (k := 146) (j := 0) (l := 0) (u := 1999) rfl
                                exact lw_op546 E d hd hL y3 hy0 (by omega) hnext a b hv hg0 hg1 hg2 hg3 hg4 (show a 0 0 = a 146 0 from by omega)
                              ·
                                refine jt_ite (fun c418_ => ?_) (fun c418_ => ?_)
                                ·
                                  have h419_ := iv_get hv (k := 0) (j := 0) (l := 0) (u := 1999) rfl
                                  have h420_ := iv_get hv (k := 146) (j := 0) (l := 0) (u := 1999) rfl
                                  exact lw_op559 E d hd hL y3 hy0 (by omega) hnext a b hv hg0 hg1 hg2 hg3 hg4 (show a 0 0 = a 146 0 from by omega)
                                ·
                                  refine jt_ite (fun c421_ => ?_) (fun c421_ => ?_)
                                  ·
                                    have h422_ := iv_get hv (k := 0) (j := 0) (l := 0) (u := 1999) rfl
                                    have h423_ := iv_get hv (k := 146) (j := 0) (l := 0) (u := 1999) rfl
                                    exact lw_op592 E d hd hL y3 hy0 (by omega) hnext a b hv hg0 hg1 hg2 hg3 hg4 (show a 0 0 = a 146 0 from by omega)
                                  ·
                                    refine jt_ite (fun c424_ => ?_) (fun c424_ => ?_)
                                    ·
                                      have h425_ := iv_get hv (k := 0) (j := 0) (l := 0) (u := 1999) rfl
                                      have h426_ := iv_get hv (k := 146) (j := 0) (l := 0) (u := 1999) rfl
                                      exact lw_op615 E d hd hL y3 hy0 (by omega) hnext a b hv hg0 hg1 hg2 hg3 hg4 (show a 0 0 = a 146 0 from by omega)
                                    ·
                                      refine jt_ite (fun c427_ => ?_) (fun c427_ => ?_)
                                      ·
                                        have h428_ := iv_get hv (k := 0) (j := 0) (l := 0) (u := 1999) rfl
                                        have h429_ := iv_get hv (k := 146) (j := 0) (l := 0) (u := 1999) rfl
                                        exact lw_op648 E d hd hL y3 hy0 (by omega) hnext a b hv hg0 hg1 hg2 hg3 hg4 (show a 0 0 = a 146 0 from by omega)
                                      ·
                                        refine jt_ite (fun c430_ => ?_) (fun c430_ => ?_)
                                        ·
                                          have h431_ := iv_get hv (k := 0) (j := 0) (l := 0) (u := 1999) rfl
                                          have h432_ := iv_get hv (k := 146) (j := 0) (l := 0) (u := 1999) rfl
                                          exact lw_op691 E d hd hL y3 hy0 (by omega) hnext a b hv hg0 hg1 hg2 hg3 hg4 (show a 0 0 = a 146 0 from by omega)
                                        ·
                                          refine jt_ite (fun c433_ => ?_) (fun c433_ => ?_)
                                          ·
                                            have h434_ := iv_get hv (k := 0) (j := 0) (l := 0) (u := 1999) rfl
                                            have h435_ := iv_get hv (k := 146) (j := 0) (l := 0) (u := 1999) rfl
                                            exact lw_op724 E d hd hL y3 hy0 (by omega) hnext a b hv hg0 hg1 hg2 hg3 hg4 (show a 0 0 = a 146 0 from by omega)
                                          ·
                                            refine jt_ite (fun c436_ => ?_) (fun c436_ => ?_)
                                            ·
                                              have h437_ := iv_get hv (k := 0) (j := 0) (l := 0) (u := 1999) rfl
                                              have h438_ := iv_get hv (k := 146) (j := 0) (l := 0) (u := 1999) rfl
                                              exact lw_op747 E d hd hL y3 hy0 (by omega) hnext a b hv hg0 hg1 hg2 hg3 hg4 (show a 0 0 = a 146 0 from by omega)
                                            ·
                                              refine jt_ite (fun c439_ => ?_) (fun c439_ => ?_)
                                              ·
                                                have h440_ := iv_get hv (k := 0) (j := 0) (l := 0) (u := 1999) rfl
                                                have h441_ := iv_get hv (k := 146) (j := 0) (l := 0) (u := 1999) rfl
                                                exact lw_op790 E d hd hL y3 hy0 (by omega) hnext a b hv hg0 hg1 hg2 hg3 hg4 (show a 0 0 = a 146 0 from by omega)
                                              ·
                                                refine jt_ite (fun c442_ => ?_) (fun c442_ => ?_)
                                                ·
                                                  have h443_ := iv_get hv (k := 0) (j := 0) (l := 0) (u := 1999) rfl
                                                  have h444_ := iv_get hv (k := 146) (j := 0) (l := 0) (u := 1999) rfl
                                                  exact lw_op833 E d hd hL y3 hy0 (by omega) hnext a b hv hg0 hg1 hg2 hg3 hg4 (show a 0 0 = a 146 0 from by omega)
                                                ·
                                                  refine jt_ite (fun c445_ => ?_) (fun c445_ => ?_)
                                                  ·
                                                    have h446_ := iv_get hv (k := 0) (j := 0) (l := 0) (u := 1999) rfl
                                                    have h447_ := iv_get hv (k := 146) (j := 0) (l := 0) (u := 1999) rfl
                                                    exact lw_op856 E d hd hL y3 hy0 (by omega) hnext a b hv hg0 hg1 hg2 hg3 hg4 (show a 0 0 = a 146 0 from by omega)
                                                  ·
                                                    refine jt_ite (fun c448_ => ?_) (fun c448_ => ?_)
                                                    ·
                                                      have h449_ := iv_get hv (k := 0) (j := 0) (l := 0) (u := 1999) rfl
                                                      have h450_ := iv_get hv (k := 146) (j := 0) (l := 0) (u := 1999) rfl
                                                      exact lw_op869 E d hd hL y3 hy0 (by omega) hnext a b hv hg0 hg1 hg2 hg3 hg4 (show a 0 0 = a 146 0 from by omega)
                                                    ·
                                                      refine jt_ite (fun c451_ => ?_) (fun c451_ => ?_)
                                                      ·
                                                        have h452_ := iv_get hv (k := 0) (j := 0) (l := 0) (u := 1999) rfl
                                                        have h453_ := iv_get hv (k := 146) (j := 0) (l := 0) (u := 1999) rfl
                                                        exact lw_op902 E d hd hL y3 hy0 (by omega) hnext a b hv hg0 hg1 hg2 hg3 hg4 (show a 0 0 = a 146 0 from by omega)
                                                      ·
                                                        refine jt_ite (fun c454_ => ?_) (fun c454_ => ?_)
                                                        ·
                                                          have h455_ := iv_get hv (k := 0) (j := 0) (l := 0) (u := 1999) rfl
                                                          have h456_ := iv_get hv (k := 146) (j := 0) (l := 0) (u := 1999) rfl
                                                          exact lw_op925 E d hd hL y3 hy0 (by omega) hnext a b hv hg0 hg1 hg2 hg3 hg4 (show a 0 0 = a 146 0 from by omega)
                                                        ·
                                                          refine jt_ite (fun c457_ => ?_) (fun c457_ => ?_)
                                                          ·
                                                            have h458_ := iv_get hv (k := 0) (j := 0) (l := 0) (u := 1999) rfl
                                                            have h459_ := iv_get hv (k := 146) (j := 0) (l := 0) (u := 1999) rfl
                                                            exact lw_op958 E d hd hL y3 hy0 (by omega) hnext a b hv hg0 hg1 hg2 hg3 hg4 (show a 0 0 = a 146 0 from by omega)
                                                          ·
                                                            refine jt_ite (fun c460_ => ?_) (fun c460_ => ?_)
                                                            ·
                                                              have h461_ := iv_get hv (k := 0) (j := 0) (l := 0) (u := 1999) rfl
                                                              have h462_ := iv_get hv (k := 146) (j := 0) (l := 0) (u := 1999) rfl
                                                              exact lw_op991 E d hd hL y3 hy0 (by omega) hnext a b hv hg0 hg1 hg2 hg3 hg4 (show a 0 0 = a 146 0 from by omega)
                                                            ·
                                                              refine jt_ite (fun c463_ => ?_) (fun c463_ => ?_)
                                                              ·
                                                                have h464_ := iv_get hv (k := 0) (j := 0) (l := 0) (u := 1999) rfl
                                                                have h465_ := iv_get hv (k := 146) (j := 0) (l := 0) (u := 1999) rfl
                                                                exact lw_op1014 E d hd hL y3 hy0 (by omega) hnext a b hv hg0 hg1 hg2 hg3 hg4 (show a 0 0 = a 146 0 from by omega)
                                                              ·
                                                                refine jt_ite (fun c466_ => ?_) (fun c466_ => ?_)
                                                                ·
                                                                  have h467_ := iv_get hv (k := 0) (j := 0) (l := 0) (u := 1999) rfl
                                                                  have h468_ := iv_get hv (k := 146) (j := 0) (l := 0) (u := 1999) rfl
                                                                  exact lw_op1067 E d hd hL y3 hy0 (by omega) hnext a b hv hg0 hg1 hg2 hg3 hg4 (show a 0 0 = a 146 0 from by omega)
                                                                ·
                                                                  refine jt_ite (fun c469_ => ?_) (fun c469_ => ?_)
                                                                  ·
                                                                    have h470_ := iv_get hv (k := 0) (j := 0) (l := 0) (u := 1999) rfl
                                                                    have h471_ := iv_get hv (k := 146) (j := 0) (l := 0) (u := 1999) rfl
                                                                    exact lw_op1110 E d hd hL y3 hy0 (by omega) hnext a b hv hg0 hg1 hg2 hg3 hg4 (show a 0 0 = a 146 0 from by omega)
                                                                  ·
                                                                    refine jt_ite (fun c472_ => ?_) (fun c472_ => ?_)
                                                                    ·
                                                                      have h473_ := iv_get hv (k := 0) (j := 0) (l := 0) (u := 1999) rfl
                                                                      have h474_ := iv_get hv (k := 146) (j := 0) (l := 0) (u := 1999) rfl
                                                                      exact lw_op1143 E d hd hL y3 hy0 (by omega) hnext a b hv hg0 hg1 hg2 hg3 hg4 (show a 0 0 = a 146 0 from by omega)
                                                                    ·
                                                                      refine jt_ite (fun c475_ => ?_) (fun c475_ => ?_)
                                                                      ·
                                                                        have h476_ := iv_get hv (k := 0) (j := 0) (l := 0) (u := 1999) rfl
                                                                        have h477_ := iv_get hv (k := 146) (j := 0) (l := 0) (u := 1999) rfl
                                                                        exact lw_op1166 E d hd hL y3 hy0 (by omega) hnext a b hv hg0 hg1 hg2 hg3 hg4 (show a 0 0 = a 146 0 from by omega)
                                                                      ·
                                                                        exact absurd (by omega : False) id
