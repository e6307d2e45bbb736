theorem jt_bif {c : Bool} {X Y : Option jxR} {Q : List jxV → (Nat → Nat → Int) → (Nat → Nat → Int) → Prop} (hc : c = true) (h : jt X Q) : jt (bif c then X else Y) Q := by
  rw [hc]; exact h
theorem lw_op180 (E : jxE) (d : Nat) (hd : Nat.ble 60 (d + 1) = true) (hL : E.1 ≤ 3072) (y3 : Int) (hy0 : 0 ≤ y3) (hy1 : y3 + 6 ≤ E.1) (hnext : ∀ (a b : Nat → Nat → Int) (hv : iv a) (hg0 : WFW a) (hg1 : SV a) (hg2 : OC a) (hg3 : FO a) (hg4 : FW a) (hg5 : MEMR a) (hr0 : a 0 0 = a 146 0) (hr1 : a 4 6 = a 146 2) (hr2 : a 83 6 = a 146 49), jt (jxX E d 305 1189 [some (.inr (.inr (.inl 3000))), some (.inr (.inr (.inl 0))), some (.inr (.inr (.inl 146))), some (.inl y3)] [] (jxSH, a, b)) (fun v _ _ => v = [.inl 1])) (a b : Nat → Nat → Int) (hv : iv a) (hg0 : WFW a) (hg1 : SV a) (hg2 : OC a) (hg3 : FO a) (hg4 : FW a) (hg5 : MEMR a) (hr0 : a 0 0 = a 146 0) (hr1 : a 4 6 = a 146 2) (hr2 : a 83 6 = a 146 49) : jt (jxX E d 305 180 [some (.inr (.inr (.inl 3000))), some (.inr (.inr (.inl 0))), some (.inr (.inr (.inl 146))), some (.inl y3)] [] (jxSH, a, b)) (fun v _ _ => v = [.inl 1]) := by
  refine jt_eq (bq_law_180 E d y3 a b) ?_
  have h1_ := iv_get hv (k := 0) (j := 0) (l := 0) (u := 1999) rfl
  have h2_ := iv_get hv (k := 146) (j := 0) (l := 0) (u := 1999) rfl
  have h3_ := iv_get hv (k := 4) (j := 6) (l := 0) (u := 40) rfl
  have h4_ := iv_get hv (k := 146) (j := 2) (l := 0) (u := 40) rfl
  have h5_ := iv_get hv (k := 83) (j := 6) (l := 0) (u := 20) rfl
  have h6_ := iv_get hv (k := 146) (j := 49) (l := 0) (u := 20) rfl
  refine jt_bif (Nat.ble_eq_true_of_le (by omega)) ?_
  have h7_ : jxw (y3 + 1) = y3 + 1 := jxw_id (by omega) (by omega)
  refine jt_grd (by omega) ?_
  refine jt_bI (sp_X11_clock E d (jd_le hd rfl) (E.2 ((jxw (y3 + 1)).toNat)) a b hv) (fun r8_ a8_ b8_ h8_ => ?_)
  obtain ⟨hv8_, hf8_, rfl, hq8_0, hq8_1⟩ := h8_
  have h9_ := iv_get hv8_ (k := 0) (j := 0) (l := 0) (u := 1999) rfl
  refine jt_eq (bq_law_190 E d y3 a8_ b) ?_
  refine jt_bif (Nat.ble_eq_true_of_le (by omega)) ?_
  refine jt_grd (by omega) ?_
  refine jt_bI (sp_X12_clock E d (jd_le hd rfl) (E.2 ((jxw (y3 + 1)).toNat)) a8_ b hv8_) (fun r10_ a10_ b10_ h10_ => ?_)
  obtain ⟨hv10_, hf10_, rfl, hq10_0, hq10_1⟩ := h10_
  have h11_ := iv_get hv8_ (k := 146) (j := 0) (l := 0) (u := 1999) rfl
  have h12_ : a8_ 146 0 = a 146 0 := hf8_ 146 0 rfl
  have h13_ := iv_get hv10_ (k := 146) (j := 0) (l := 0) (u := 1999) rfl
  have h14_ := iv_get hv10_ (k := 0) (j := 0) (l := 0) (u := 1999) rfl
  have h15_ : a10_ 0 0 = a8_ 0 0 := hf10_ 0 0 rfl
  have h16_ := iv_get hv10_ (k := 4) (j := 6) (l := 0) (u := 40) rfl
  have h17_ : a10_ 4 6 = a8_ 4 6 := hf10_ 4 6 rfl
  have h18_ := iv_get hv8_ (k := 4) (j := 6) (l := 0) (u := 40) rfl
  have h19_ : a8_ 4 6 = a 4 6 := hf8_ 4 6 rfl
  have h20_ := iv_get hv10_ (k := 146) (j := 2) (l := 0) (u := 40) rfl
  have h21_ : a10_ 146 2 = a8_ 146 2 := hf10_ 146 2 rfl
  have h22_ := iv_get hv8_ (k := 146) (j := 2) (l := 0) (u := 40) rfl
  have h23_ : a8_ 146 2 = a 146 2 := hf8_ 146 2 rfl
  have h24_ := iv_get hv10_ (k := 83) (j := 6) (l := 0) (u := 20) rfl
  have h25_ : a10_ 83 6 = a8_ 83 6 := hf10_ 83 6 rfl
  have h26_ := iv_get hv8_ (k := 83) (j := 6) (l := 0) (u := 20) rfl
  have h27_ : a8_ 83 6 = a 83 6 := hf8_ 83 6 rfl
  have h28_ := iv_get hv10_ (k := 146) (j := 49) (l := 0) (u := 20) rfl
  have h29_ : a10_ 146 49 = a8_ 146 49 := hf10_ 146 49 rfl
  have h30_ := iv_get hv8_ (k := 146) (j := 49) (l := 0) (u := 20) rfl
  have h31_ : a8_ 146 49 = a 146 49 := hf8_ 146 49 rfl
  exact hnext a10_ b hv10_ (WFW_fr (WFW_fr hg0 hf8_ (fun _ => rfl) (fun _ => rfl)) hf10_ (fun _ => rfl) (fun _ => rfl)) (SV_fr (SV_fr hg1 hf8_ (fun _ => rfl) (fun _ => rfl)) hf10_ (fun _ => rfl) (fun _ => rfl)) (OC_fr (OC_fr hg2 hf8_ rfl rfl (fun _ => rfl) (fun _ => rfl) (fun _ => rfl) (fun _ => rfl) (fun _ => rfl)) hf10_ rfl rfl (fun _ => rfl) (fun _ => rfl) (fun _ => rfl) (fun _ => rfl) (fun _ => rfl)) (FO_fr (FO_fr hg3 hf8_ rfl rfl (fun _ => rfl)) hf10_ rfl rfl (fun _ => rfl)) (FW_fr (FW_fr hg4 hf8_ rfl (fun _ => rfl)) hf10_ rfl (fun _ => rfl)) (MEMR_fr (MEMR_fr hg5 hf8_ (fun _ => rfl) (fun _ => rfl) (fun _ => rfl) (fun _ => rfl) (fun _ => rfl) (fun _ => rfl) (fun _ => rfl) (fun _ => rfl) (fun _ => rfl) (fun _ => rfl)) hf10_ (fun _ => rfl) (fun _ => rfl) (fun _ => rfl) (fun _ => rfl) (fun _ => rfl) (fun _ => rfl) (fun _ => rfl) (fun _ => rfl) (fun _ => rfl) (fun _ => rfl)) (show a10_ 0 0 = a10_ 146 0 from by omega) (show a10_ 4 6 = a10_ 146 2 from by omega) (show a10_ 83 6 = a10_ 146 49 from by omega)
theorem lw_op203 (E : jxE) (d : Nat) (hd : Nat.ble 60 (d + 1) = true) (hL : E.1 ≤ 3072) (y3 : Int) (hy0 : 0 ≤ y3) (hy1 : y3 + 6 ≤ E.1) (hnext : ∀ (a b : Nat → Nat → Int) (hv : iv a) (hg0 : WFW a) (hg1 : SV a) (hg2 : OC a) (hg3 : FO a) (hg4 : FW a) (hg5 : MEMR a) (hr0 : a 0 0 = a 146 0) (hr1 : a 4 6 = a 146 2) (hr2 : a 83 6 = a 146 49), jt (jxX E d 305 1189 [some (.inr (.inr (.inl 3000))), some (.inr (.inr (.inl 0))), some (.inr (.inr (.inl 146))), some (.inl y3)] [] (jxSH, a, b)) (fun v _ _ => v = [.inl 1])) (a b : Nat → Nat → Int) (hv : iv a) (hg0 : WFW a) (hg1 : SV a) (hg2 : OC a) (hg3 : FO a) (hg4 : FW a) (hg5 : MEMR a) (hr0 : a 0 0 = a 146 0) (hr1 : a 4 6 = a 146 2) (hr2 : a 83 6 = a 146 49) : jt (jxX E d 305 203 [some (.inr (.inr (.inl 3000))), some (.inr (.inr (.inl 0))), some (.inr (.inr (.inl 146))), some (.inl y3)] [] (jxSH, a, b)) (fun v _ _ => v = [.inl 1]) := by
  refine jt_eq (bq_law_203 E d y3 a b) ?_
  have h32_ := iv_get hv (k := 0) (j := 0) (l := 0) (u := 1999) rfl
  have h33_ := iv_get hv (k := 146) (j := 0) (l := 0) (u := 1999) rfl
  have h34_ := iv_get hv (k := 4) (j := 6) (l := 0) (u := 40) rfl
  have h35_ := iv_get hv (k := 146) (j := 2) (l := 0) (u := 40) rfl
  have h36_ := iv_get hv (k := 83) (j := 6) (l := 0) (u := 20) rfl
  have h37_ := iv_get hv (k := 146) (j := 49) (l := 0) (u := 20) rfl
  refine jt_bif (Nat.ble_eq_true_of_le (by omega)) ?_
  have h38_ : jxw (y3 + 1) = y3 + 1 := jxw_id (by omega) (by omega)
  refine jt_grd (by omega) ?_
  refine jt_bif (Nat.ble_eq_true_of_le (by omega)) ?_
  have h39_ : jxw (y3 + 2) = y3 + 2 := jxw_id (by omega) (by omega)
  refine jt_grd (by omega) ?_
  refine jt_bif (Nat.ble_eq_true_of_le (by omega)) ?_
  have h40_ : jxw (y3 + 3) = y3 + 3 := jxw_id (by omega) (by omega)
  refine jt_grd (by omega) ?_
  refine jt_bI (sp_X11_far E d (jd_le hd rfl) (E.2 ((jxw (y3 + 1)).toNat)) (E.2 ((jxw (y3 + 2)).toNat)) (E.2 ((jxw (y3 + 3)).toNat)) a b hv) (fun r41_ a41_ b41_ h41_ => ?_)
  obtain ⟨hv41_, hf41_, rfl, hq41_0⟩ := h41_
  refine jt_eq (bq_law_223 E d y3 a41_ b) ?_
  refine jt_bif (Nat.ble_eq_true_of_le (by omega)) ?_
  refine jt_grd (by omega) ?_
  refine jt_bif (Nat.ble_eq_true_of_le (by omega)) ?_
  refine jt_grd (by omega) ?_
  refine jt_bif (Nat.ble_eq_true_of_le (by omega)) ?_
  refine jt_grd (by omega) ?_
  refine jt_bI (sp_X12_far E d (jd_le hd rfl) (E.2 ((jxw (y3 + 1)).toNat)) (E.2 ((jxw (y3 + 2)).toNat)) (E.2 ((jxw (y3 + 3)).toNat)) a41_ b hv41_) (fun r42_ a42_ b42_ h42_ => ?_)
  obtain ⟨hv42_, hf42_, rfl, hq42_0⟩ := h42_
  refine jt_eq (bq_law_243 E d y3 a42_ b) ?_
  have h43_ := iv_get hv42_ (k := 0) (j := 0) (l := 0) (u := 1999) rfl
  have h44_ : a42_ 0 0 = a41_ 0 0 := hf42_ 0 0 rfl
  have h45_ := iv_get hv41_ (k := 0) (j := 0) (l := 0) (u := 1999) rfl
  have h46_ : a41_ 0 0 = a 0 0 := hf41_ 0 0 rfl
  have h47_ := iv_get hv42_ (k := 146) (j := 0) (l := 0) (u := 1999) rfl
  have h48_ : a42_ 146 0 = a41_ 146 0 := hf42_ 146 0 rfl
  have h49_ := iv_get hv41_ (k := 146) (j := 0) (l := 0) (u := 1999) rfl
  have h50_ : a41_ 146 0 = a 146 0 := hf41_ 146 0 rfl
  have h51_ := iv_get hv42_ (k := 4) (j := 6) (l := 0) (u := 40) rfl
  have h52_ : a42_ 4 6 = a41_ 4 6 := hf42_ 4 6 rfl
  have h53_ := iv_get hv41_ (k := 4) (j := 6) (l := 0) (u := 40) rfl
  have h54_ : a41_ 4 6 = a 4 6 := hf41_ 4 6 rfl
  have h55_ := iv_get hv42_ (k := 146) (j := 2) (l := 0) (u := 40) rfl
  have h56_ : a42_ 146 2 = a41_ 146 2 := hf42_ 146 2 rfl
  have h57_ := iv_get hv41_ (k := 146) (j := 2) (l := 0) (u := 40) rfl
  have h58_ : a41_ 146 2 = a 146 2 := hf41_ 146 2 rfl
  have h59_ := iv_get hv42_ (k := 83) (j := 6) (l := 0) (u := 20) rfl
  have h60_ : a42_ 83 6 = a41_ 83 6 := hf42_ 83 6 rfl
  have h61_ := iv_get hv41_ (k := 83) (j := 6) (l := 0) (u := 20) rfl
  have h62_ : a41_ 83 6 = a 83 6 := hf41_ 83 6 rfl
  have h63_ := iv_get hv42_ (k := 146) (j := 49) (l := 0) (u := 20) rfl
  have h64_ : a42_ 146 49 = a41_ 146 49 := hf42_ 146 49 rfl
  have h65_ := iv_get hv41_ (k := 146) (j := 49) (l := 0) (u := 20) rfl
  have h66_ : a41_ 146 49 = a 146 49 := hf41_ 146 49 rfl
  exact hnext a42_ b hv42_ (WFW_fr (WFW_fr hg0 hf41_ (fun _ => rfl) (fun _ => rfl)) hf42_ (fun _ => rfl) (fun _ => rfl)) (SV_fr (SV_fr hg1 hf41_ (fun _ => rfl) (fun _ => rfl)) hf42_ (fun _ => rfl) (fun _ => rfl)) (OC_fr (OC_fr hg2 hf41_ rfl rfl (fun _ => rfl) (fun _ => rfl) (fun _ => rfl) (fun _ => rfl) (fun _ => rfl)) hf42_ rfl rfl (fun _ => rfl) (fun _ => rfl) (fun _ => rfl) (fun _ => rfl) (fun _ => rfl)) (FO_fr (FO_fr hg3 hf41_ rfl rfl (fun _ => rfl)) hf42_ rfl rfl (fun _ => rfl)) (FW_fr (FW_fr hg4 hf41_ rfl (fun _ => rfl)) hf42_ rfl (fun _ => rfl)) (MEMR_fr (MEMR_fr hg5 hf41_ (fun _ => rfl) (fun _ => rfl) (fun _ => rfl) (fun _ => rfl) (fun _ => rfl) (fun _ => rfl) (fun _ => rfl) (fun _ => rfl) (fun _ => rfl) (fun _ => rfl)) hf42_ (fun _ => rfl) (fun _ => rfl) (fun _ => rfl) (fun _ => rfl) (fun _ => rfl) (fun _ => rfl) (fun _ => rfl) (fun _ => rfl) (fun _ => rfl) (fun _ => rfl)) (show a42_ 0 0 = a42_ 146 0 from by omega) (show a42_ 4 6 = a42_ 146 2 from by omega) (show a42_ 83 6 = a42_ 146 49 from by omega)
theorem lw_op246 (E : jxE) (d : Nat) (hd : Nat.ble 60 (d + 1) = true) (hL : E.1 ≤ 3072) (y3 : Int) (hy0 : 0 ≤ y3) (hy1 : y3 + 6 ≤ E.1) (hnext : ∀ (a b : Nat → Nat → Int) (hv : iv a) (hg0 : WFW a) (hg1 : SV a) (hg2 : OC a) (hg3 : FO a) (hg4 : FW a) (hg5 : MEMR a) (hr0 : a 0 0 = a 146 0) (hr1 : a 4 6 = a 146 2) (hr2 : a 83 6 = a 146 49), jt (jxX E d 305 1189 [some (.inr (.inr (.inl 3000))), some (.inr (.inr (.inl 0))), some (.inr (.inr (.inl 146))), some (.inl y3)] [] (jxSH, a, b)) (fun v _ _ => v = [.inl 1])) (a b : Nat → Nat → Int) (hv : iv a) (hg0 : WFW a) (hg1 : SV a) (hg2 : OC a) (hg3 : FO a) (hg4 : FW a) (hg5 : MEMR a) (hr0 : a 0 0 = a 146 0) (hr1 : a 4 6 = a 146 2) (hr2 : a 83 6 = a 146 49) : jt (jxX E d 305 246 [some (.inr (.inr (.inl 3000))), some (.inr (.inr (.inl 0))), some (.inr (.inr (.inl 146))), some (.inl y3)] [] (jxSH, a, b)) (fun v _ _ => v = [.inl 1]) := by
  refine jt_eq (bq_law_246 E d y3 a b) ?_
  have h67_ := iv_get hv (k := 0) (j := 0) (l := 0) (u := 1999) rfl
  have h68_ := iv_get hv (k := 146) (j := 0) (l := 0) (u := 1999) rfl
  have h69_ := iv_get hv (k := 4) (j := 6) (l := 0) (u := 40) rfl
  have h70_ := iv_get hv (k := 146) (j := 2) (l := 0) (u := 40) rfl
  have h71_ := iv_get hv (k := 83) (j := 6) (l := 0) (u := 20) rfl
  have h72_ := iv_get hv (k := 146) (j := 49) (l := 0) (u := 20) rfl
  refine jt_bif (Nat.ble_eq_true_of_le (by omega)) ?_
  have h73_ : jxw (y3 + 1) = y3 + 1 := jxw_id (by omega) (by omega)
  refine jt_grd (by omega) ?_
  refine jt_bif (Nat.ble_eq_true_of_le (by omega)) ?_
  have h74_ : jxw (y3 + 2) = y3 + 2 := jxw_id (by omega) (by omega)
  refine jt_grd (by omega) ?_
  refine jt_bif (Nat.ble_eq_true_of_le (by omega)) ?_
  have h75_ : jxw (y3 + 3) = y3 + 3 := jxw_id (by omega) (by omega)
  refine jt_grd (by omega) ?_
  refine jt_bI (sp_X11_member E d (jd_le hd rfl) (E.2 ((jxw (y3 + 1)).toNat)) (E.2 ((jxw (y3 + 2)).toNat)) (E.2 ((jxw (y3 + 3)).toNat)) a b hv) (fun r76_ a76_ b76_ h76_ => ?_)
  obtain ⟨hv76_, hf76_, rfl, hq76_0, hq76_1, hq76_2⟩ := h76_
  have h77_ := iv_get hv76_ (k := 4) (j := 6) (l := 0) (u := 40) rfl
  refine jt_eq (bq_law_266 E d y3 a76_ b) ?_
  refine jt_bif (Nat.ble_eq_true_of_le (by omega)) ?_
  refine jt_grd (by omega) ?_
  refine jt_bif (Nat.ble_eq_true_of_le (by omega)) ?_
  refine jt_grd (by omega) ?_
  refine jt_bif (Nat.ble_eq_true_of_le (by omega)) ?_
  refine jt_grd (by omega) ?_
  refine jt_bI (sp_X12_member E d (jd_le hd rfl) (E.2 ((jxw (y3 + 1)).toNat)) (E.2 ((jxw (y3 + 2)).toNat)) (E.2 ((jxw (y3 + 3)).toNat)) a76_ b hv76_) (fun r78_ a78_ b78_ h78_ => ?_)
  obtain ⟨hv78_, hf78_, rfl, hq78_0, hq78_1, hq78_2⟩ := h78_
  have h79_ := iv_get hv76_ (k := 146) (j := 2) (l := 0) (u := 40) rfl
  have h80_ : a76_ 146 2 = a 146 2 := hf76_ 146 2 rfl
  have h81_ := iv_get hv78_ (k := 146) (j := 2) (l := 0) (u := 40) rfl
  have hM78 : MEMR a78_ := MEMR_add hg5 hq76_1 hq76_2 (fun j => ⟨hf76_ 148 j rfl, hf76_ 149 j rfl, hf76_ 150 j rfl, hf76_ 151 j rfl, hf76_ 152 j rfl⟩) hq78_1 hq78_2 (fun j => ⟨hf78_ 5 j rfl, hf78_ 6 j rfl, hf78_ 7 j rfl, hf78_ 8 j rfl, hf78_ 10 j rfl⟩) (by omega) (by rw [hf76_ 146 0 rfl]; exact hr0)
  refine jt_eq (bq_law_286 E d y3 a78_ b) ?_
  have h82_ := iv_get hv78_ (k := 0) (j := 0) (l := 0) (u := 1999) rfl
  have h83_ : a78_ 0 0 = a76_ 0 0 := hf78_ 0 0 rfl
  have h84_ := iv_get hv76_ (k := 0) (j := 0) (l := 0) (u := 1999) rfl
  have h85_ : a76_ 0 0 = a 0 0 := hf76_ 0 0 rfl
  have h86_ := iv_get hv78_ (k := 146) (j := 0) (l := 0) (u := 1999) rfl
  have h87_ : a78_ 146 0 = a76_ 146 0 := hf78_ 146 0 rfl
  have h88_ := iv_get hv76_ (k := 146) (j := 0) (l := 0) (u := 1999) rfl
  have h89_ : a76_ 146 0 = a 146 0 := hf76_ 146 0 rfl
  have h90_ := iv_get hv78_ (k := 4) (j := 6) (l := 0) (u := 40) rfl
  have h91_ : a78_ 4 6 = a76_ 4 6 := hf78_ 4 6 rfl
  have h92_ := iv_get hv78_ (k := 83) (j := 6) (l := 0) (u := 20) rfl
  have h93_ : a78_ 83 6 = a76_ 83 6 := hf78_ 83 6 rfl
  have h94_ := iv_get hv76_ (k := 83) (j := 6) (l := 0) (u := 20) rfl
  have h95_ : a76_ 83 6 = a 83 6 := hf76_ 83 6 rfl
  have h96_ := iv_get hv78_ (k := 146) (j := 49) (l := 0) (u := 20) rfl
  have h97_ : a78_ 146 49 = a76_ 146 49 := hf78_ 146 49 rfl
  have h98_ := iv_get hv76_ (k := 146) (j := 49) (l := 0) (u := 20) rfl
  have h99_ : a76_ 146 49 = a 146 49 := hf76_ 146 49 rfl
  exact hnext a78_ b hv78_ (WFW_fr (WFW_fr hg0 hf76_ (fun _ => rfl) (fun _ => rfl)) hf78_ (fun _ => rfl) (fun _ => rfl)) (SV_fr (SV_fr hg1 hf76_ (fun _ => rfl) (fun _ => rfl)) hf78_ (fun _ => rfl) (fun _ => rfl)) (OC_fr (OC_fr hg2 hf76_ rfl rfl (fun _ => rfl) (fun _ => rfl) (fun _ => rfl) (fun _ => rfl) (fun _ => rfl)) hf78_ rfl rfl (fun _ => rfl) (fun _ => rfl) (fun _ => rfl) (fun _ => rfl) (fun _ => rfl)) (FO_fr (FO_fr hg3 hf76_ rfl rfl (fun _ => rfl)) hf78_ rfl rfl (fun _ => rfl)) (FW_fr (FW_fr hg4 hf76_ rfl (fun _ => rfl)) hf78_ rfl (fun _ => rfl)) hM78 (show a78_ 0 0 = a78_ 146 0 from by omega) (show a78_ 4 6 = a78_ 146 2 from by omega) (show a78_ 83 6 = a78_ 146 49 from by omega)
theorem lw_op289 (E : jxE) (d : Nat) (hd : Nat.ble 60 (d + 1) = true) (hL : E.1 ≤ 3072) (y3 : Int) (hy0 : 0 ≤ y3) (hy1 : y3 + 6 ≤ E.1) (hnext : ∀ (a b : Nat → Nat → Int) (hv : iv a) (hg0 : WFW a) (hg1 : SV a) (hg2 : OC a) (hg3 : FO a) (hg4 : FW a) (hg5 : MEMR a) (hr0 : a 0 0 = a 146 0) (hr1 : a 4 6 = a 146 2) (hr2 : a 83 6 = a 146 49), jt (jxX E d 305 1189 [some (.inr (.inr (.inl 3000))), some (.inr (.inr (.inl 0))), some (.inr (.inr (.inl 146))), some (.inl y3)] [] (jxSH, a, b)) (fun v _ _ => v = [.inl 1])) (a b : Nat → Nat → Int) (hv : iv a) (hg0 : WFW a) (hg1 : SV a) (hg2 : OC a) (hg3 : FO a) (hg4 : FW a) (hg5 : MEMR a) (hr0 : a 0 0 = a 146 0) (hr1 : a 4 6 = a 146 2) (hr2 : a 83 6 = a 146 49) : jt (jxX E d 305 289 [some (.inr (.inr (.inl 3000))), some (.inr (.inr (.inl 0))), some (.inr (.inr (.inl 146))), some (.inl y3)] [] (jxSH, a, b)) (fun v _ _ => v = [.inl 1]) := by
  refine jt_eq (bq_law_289 E d y3 a b) ?_
  have h100_ := iv_get hv (k := 0) (j := 0) (l := 0) (u := 1999) rfl
  have h101_ := iv_get hv (k := 146) (j := 0) (l := 0) (u := 1999) rfl
  have h102_ := iv_get hv (k := 4) (j := 6) (l := 0) (u := 40) rfl
  have h103_ := iv_get hv (k := 146) (j := 2) (l := 0) (u := 40) rfl
  have h104_ := iv_get hv (k := 83) (j := 6) (l := 0) (u := 20) rfl
  have h105_ := iv_get hv (k := 146) (j := 49) (l := 0) (u := 20) rfl
  refine jt_bif (Nat.ble_eq_true_of_le (by omega)) ?_
  have h106_ : jxw (y3 + 1) = y3 + 1 := jxw_id (by omega) (by omega)
  refine jt_grd (by omega) ?_
  refine jt_bI (sp_X11_leave E d (jd_le hd rfl) (E.2 ((jxw (y3 + 1)).toNat)) a b hv) (fun r107_ a107_ b107_ h107_ => ?_)
  obtain ⟨hv107_, hf107_, rfl, hq107_0, hq107_1, hq107_2⟩ := h107_
  refine jt_eq (bq_law_299 E d y3 a107_ b) ?_
  refine jt_bif (Nat.ble_eq_true_of_le (by omega)) ?_
  refine jt_grd (by omega) ?_
  refine jt_bI (sp_X12_leave E d (jd_le hd rfl) (E.2 ((jxw (y3 + 1)).toNat)) a107_ b hv107_ (OC_fr hg2 hf107_ rfl rfl (fun _ => rfl) (fun _ => rfl) (fun _ => rfl) (fun _ => rfl) (fun _ => rfl))) (fun r108_ a108_ b108_ h108_ => ?_)
  obtain ⟨hv108_, hf108_, rfl, hq108_0, hq108_1, hq108_2, hq108_3⟩ := h108_
  have h109_ := iv_get hv107_ (k := 146) (j := 2) (l := 0) (u := 40) rfl
  have h110_ : a107_ 146 2 = a 146 2 := hf107_ 146 2 rfl
  have hM108 : MEMR a108_ := MEMR_lv hg5 hr1 hq107_1 hq107_2 (fun j => ⟨hf107_ 5 j rfl, hf107_ 6 j rfl, hf107_ 7 j rfl, hf107_ 8 j rfl, hf107_ 5 j rfl⟩) (fun j => ⟨hf107_ 148 j rfl, hf107_ 149 j rfl, hf107_ 150 j rfl, hf107_ 151 j rfl, hf107_ 152 j rfl⟩) (hf107_ 146 2 rfl) hq108_2 hq108_3 (fun j => ⟨hf108_ 5 j rfl, hf108_ 6 j rfl, hf108_ 7 j rfl, hf108_ 8 j rfl, hf108_ 10 j rfl⟩) (fun j => ⟨hf108_ 148 j rfl, hf108_ 149 j rfl, hf108_ 150 j rfl, hf108_ 151 j rfl, hf108_ 148 j rfl⟩)
  have h111_ := iv_get hv108_ (k := 0) (j := 0) (l := 0) (u := 1999) rfl
  have h112_ : a108_ 0 0 = a107_ 0 0 := hf108_ 0 0 rfl
  have h113_ := iv_get hv107_ (k := 0) (j := 0) (l := 0) (u := 1999) rfl
  have h114_ : a107_ 0 0 = a 0 0 := hf107_ 0 0 rfl
  have h115_ := iv_get hv108_ (k := 146) (j := 0) (l := 0) (u := 1999) rfl
  have h116_ : a108_ 146 0 = a107_ 146 0 := hf108_ 146 0 rfl
  have h117_ := iv_get hv107_ (k := 146) (j := 0) (l := 0) (u := 1999) rfl
  have h118_ : a107_ 146 0 = a 146 0 := hf107_ 146 0 rfl
  have h119_ := iv_get hv108_ (k := 4) (j := 6) (l := 0) (u := 40) rfl
  have h120_ : a108_ 4 6 = a107_ 4 6 := hf108_ 4 6 rfl
  have h121_ := iv_get hv107_ (k := 4) (j := 6) (l := 0) (u := 40) rfl
  have h122_ : a107_ 4 6 = a 4 6 := hf107_ 4 6 rfl
  have h123_ := iv_get hv108_ (k := 146) (j := 2) (l := 0) (u := 40) rfl
  have h124_ : a108_ 146 2 = a107_ 146 2 := hf108_ 146 2 rfl
  have h125_ := iv_get hv108_ (k := 83) (j := 6) (l := 0) (u := 20) rfl
  have h126_ : a108_ 83 6 = a107_ 83 6 := hf108_ 83 6 rfl
  have h127_ := iv_get hv107_ (k := 83) (j := 6) (l := 0) (u := 20) rfl
  have h128_ : a107_ 83 6 = a 83 6 := hf107_ 83 6 rfl
  have h129_ := iv_get hv108_ (k := 146) (j := 49) (l := 0) (u := 20) rfl
  have h130_ : a108_ 146 49 = a107_ 146 49 := hf108_ 146 49 rfl
  have h131_ := iv_get hv107_ (k := 146) (j := 49) (l := 0) (u := 20) rfl
  have h132_ : a107_ 146 49 = a 146 49 := hf107_ 146 49 rfl
  exact hnext a108_ b hv108_ (WFW_fr (WFW_fr hg0 hf107_ (fun _ => rfl) (fun _ => rfl)) hf108_ (fun _ => rfl) (fun _ => rfl)) (SV_fr (SV_fr hg1 hf107_ (fun _ => rfl) (fun _ => rfl)) hf108_ (fun _ => rfl) (fun _ => rfl)) hq108_0 (FO_fr (FO_fr hg3 hf107_ rfl rfl (fun _ => rfl)) hf108_ rfl rfl (fun _ => rfl)) (FW_fr (FW_fr hg4 hf107_ rfl (fun _ => rfl)) hf108_ rfl (fun _ => rfl)) hM108 (show a108_ 0 0 = a108_ 146 0 from by omega) (show a108_ 4 6 = a108_ 146 2 from by omega) (show a108_ 83 6 = a108_ 146 49 from by omega)
theorem lw_op312 (E : jxE) (d : Nat) (hd : Nat.ble 60 (d + 1) = true) (hL : E.1 ≤ 3072) (y3 : Int) (hy0 : 0 ≤ y3) (hy1 : y3 + 6 ≤ E.1) (hnext : ∀ (a b : Nat → Nat → Int) (hv : iv a) (hg0 : WFW a) (hg1 : SV a) (hg2 : OC a) (hg3 : FO a) (hg4 : FW a) (hg5 : MEMR a) (hr0 : a 0 0 = a 146 0) (hr1 : a 4 6 = a 146 2) (hr2 : a 83 6 = a 146 49), jt (jxX E d 305 1189 [some (.inr (.inr (.inl 3000))), some (.inr (.inr (.inl 0))), some (.inr (.inr (.inl 146))), some (.inl y3)] [] (jxSH, a, b)) (fun v _ _ => v = [.inl 1])) (a b : Nat → Nat → Int) (hv : iv a) (hg0 : WFW a) (hg1 : SV a) (hg2 : OC a) (hg3 : FO a) (hg4 : FW a) (hg5 : MEMR a) (hr0 : a 0 0 = a 146 0) (hr1 : a 4 6 = a 146 2) (hr2 : a 83 6 = a 146 49) : jt (jxX E d 305 312 [some (.inr (.inr (.inl 3000))), some (.inr (.inr (.inl 0))), some (.inr (.inr (.inl 146))), some (.inl y3)] [] (jxSH, a, b)) (fun v _ _ => v = [.inl 1]) := by
  refine jt_eq (bq_law_312 E d y3 a b) ?_
  have h133_ := iv_get hv (k := 0) (j := 0) (l := 0) (u := 1999) rfl
  have h134_ := iv_get hv (k := 146) (j := 0) (l := 0) (u := 1999) rfl
  have h135_ := iv_get hv (k := 4) (j := 6) (l := 0) (u := 40) rfl
  have h136_ := iv_get hv (k := 146) (j := 2) (l := 0) (u := 40) rfl
  have h137_ := iv_get hv (k := 83) (j := 6) (l := 0) (u := 20) rfl
  have h138_ := iv_get hv (k := 146) (j := 49) (l := 0) (u := 20) rfl
  refine jt_bif (Nat.ble_eq_true_of_le (by omega)) ?_
  have h139_ : jxw (y3 + 1) = y3 + 1 := jxw_id (by omega) (by omega)
  refine jt_grd (by omega) ?_
  refine jt_bif (Nat.ble_eq_true_of_le (by omega)) ?_
  have h140_ : jxw (y3 + 2) = y3 + 2 := jxw_id (by omega) (by omega)
  refine jt_grd (by omega) ?_
  refine jt_bif (Nat.ble_eq_true_of_le (by omega)) ?_
  have h141_ : jxw (y3 + 3) = y3 + 3 := jxw_id (by omega) (by omega)
  refine jt_grd (by omega) ?_
  refine jt_bif (Nat.ble_eq_true_of_le (by omega)) ?_
  have h142_ : jxw (y3 + 4) = y3 + 4 := jxw_id (by omega) (by omega)
  refine jt_grd (by omega) ?_
  refine jt_bif (Nat.ble_eq_true_of_le (by omega)) ?_
  have h143_ : jxw (y3 + 5) = y3 + 5 := jxw_id (by omega) (by omega)
  refine jt_grd (by omega) ?_
  refine jt_bI (sp_X11_feed E d (jd_le hd rfl) (E.2 ((jxw (y3 + 1)).toNat)) (E.2 ((jxw (y3 + 2)).toNat)) (E.2 ((jxw (y3 + 3)).toNat)) (E.2 ((jxw (y3 + 4)).toNat)) (E.2 ((jxw (y3 + 5)).toNat)) a b hv) (fun r144_ a144_ b144_ h144_ => ?_)
  obtain ⟨hv144_, hf144_, rfl, hq144_0⟩ := h144_
  have h145_ := iv_get hv (k := 2) (j := 1) (l := 0) (u := 200) rfl
  have h146_ := iv_get hv144_ (k := 2) (j := 1) (l := 0) (u := 200) rfl
  refine jt_eq (bq_law_342 E d y3 a144_ b) ?_
  refine jt_bif (Nat.ble_eq_true_of_le (by omega)) ?_
  refine jt_grd (by omega) ?_
  refine jt_bif (Nat.ble_eq_true_of_le (by omega)) ?_
  refine jt_grd (by omega) ?_
  refine jt_bif (Nat.ble_eq_true_of_le (by omega)) ?_
  refine jt_grd (by omega) ?_
  refine jt_bif (Nat.ble_eq_true_of_le (by omega)) ?_
  refine jt_grd (by omega) ?_
  refine jt_bif (Nat.ble_eq_true_of_le (by omega)) ?_
  refine jt_grd (by omega) ?_
  refine jt_bI (sp_X12_feed E d (jd_le hd rfl) (E.2 ((jxw (y3 + 1)).toNat)) (E.2 ((jxw (y3 + 2)).toNat)) (E.2 ((jxw (y3 + 3)).toNat)) (E.2 ((jxw (y3 + 4)).toNat)) (E.2 ((jxw (y3 + 5)).toNat)) a144_ b hv144_) (fun r147_ a147_ b147_ h147_ => ?_)
  obtain ⟨hv147_, hf147_, rfl, hq147_0⟩ := h147_
  have h148_ := iv_get hv144_ (k := 146) (j := 22) (l := 0) (u := 200) rfl
  have h149_ : a144_ 146 22 = a 146 22 := hf144_ 146 22 rfl
  have h150_ := iv_get hv (k := 146) (j := 22) (l := 0) (u := 200) rfl
  have h151_ := iv_get hv147_ (k := 146) (j := 22) (l := 0) (u := 200) rfl
  refine jt_eq (bq_law_372 E d y3 a147_ b) ?_
  have h152_ := iv_get hv147_ (k := 0) (j := 0) (l := 0) (u := 1999) rfl
  have h153_ : a147_ 0 0 = a144_ 0 0 := hf147_ 0 0 rfl
  have h154_ := iv_get hv144_ (k := 0) (j := 0) (l := 0) (u := 1999) rfl
  have h155_ : a144_ 0 0 = a 0 0 := hf144_ 0 0 rfl
  have h156_ := iv_get hv147_ (k := 146) (j := 0) (l := 0) (u := 1999) rfl
  have h157_ : a147_ 146 0 = a144_ 146 0 := hf147_ 146 0 rfl
  have h158_ := iv_get hv144_ (k := 146) (j := 0) (l := 0) (u := 1999) rfl
  have h159_ : a144_ 146 0 = a 146 0 := hf144_ 146 0 rfl
  have h160_ := iv_get hv147_ (k := 4) (j := 6) (l := 0) (u := 40) rfl
  have h161_ : a147_ 4 6 = a144_ 4 6 := hf147_ 4 6 rfl
  have h162_ := iv_get hv144_ (k := 4) (j := 6) (l := 0) (u := 40) rfl
  have h163_ : a144_ 4 6 = a 4 6 := hf144_ 4 6 rfl
  have h164_ := iv_get hv147_ (k := 146) (j := 2) (l := 0) (u := 40) rfl
  have h165_ : a147_ 146 2 = a144_ 146 2 := hf147_ 146 2 rfl
  have h166_ := iv_get hv144_ (k := 146) (j := 2) (l := 0) (u := 40) rfl
  have h167_ : a144_ 146 2 = a 146 2 := hf144_ 146 2 rfl
  have h168_ := iv_get hv147_ (k := 83) (j := 6) (l := 0) (u := 20) rfl
  have h169_ : a147_ 83 6 = a144_ 83 6 := hf147_ 83 6 rfl
  have h170_ := iv_get hv144_ (k := 83) (j := 6) (l := 0) (u := 20) rfl
  have h171_ : a144_ 83 6 = a 83 6 := hf144_ 83 6 rfl
  have h172_ := iv_get hv147_ (k := 146) (j := 49) (l := 0) (u := 20) rfl
  have h173_ : a147_ 146 49 = a144_ 146 49 := hf147_ 146 49 rfl
  have h174_ := iv_get hv144_ (k := 146) (j := 49) (l := 0) (u := 20) rfl
  have h175_ : a144_ 146 49 = a 146 49 := hf144_ 146 49 rfl
  exact hnext a147_ b hv147_ (WFW_fr (WFW_fr hg0 hf144_ (fun _ => rfl) (fun _ => rfl)) hf147_ (fun _ => rfl) (fun _ => rfl)) (SV_fr (SV_fr hg1 hf144_ (fun _ => rfl) (fun _ => rfl)) hf147_ (fun _ => rfl) (fun _ => rfl)) (OC_fr (OC_fr hg2 hf144_ rfl rfl (fun _ => rfl) (fun _ => rfl) (fun _ => rfl) (fun _ => rfl) (fun _ => rfl)) hf147_ rfl rfl (fun _ => rfl) (fun _ => rfl) (fun _ => rfl) (fun _ => rfl) (fun _ => rfl)) (FO_fr (FO_fr hg3 hf144_ rfl rfl (fun _ => rfl)) hf147_ rfl rfl (fun _ => rfl)) (FW_fr (FW_fr hg4 hf144_ rfl (fun _ => rfl)) hf147_ rfl (fun _ => rfl)) (MEMR_fr (MEMR_fr hg5 hf144_ (fun _ => rfl) (fun _ => rfl) (fun _ => rfl) (fun _ => rfl) (fun _ => rfl) (fun _ => rfl) (fun _ => rfl) (fun _ => rfl) (fun _ => rfl) (fun _ => rfl)) hf147_ (fun _ => rfl) (fun _ => rfl) (fun _ => rfl) (fun _ => rfl) (fun _ => rfl) (fun _ => rfl) (fun _ => rfl) (fun _ => rfl) (fun _ => rfl) (fun _ => rfl)) (show a147_ 0 0 = a147_ 146 0 from by omega) (show a147_ 4 6 = a147_ 146 2 from by omega) (show a147_ 83 6 = a147_ 146 49 from by omega)
theorem lw_op375 (E : jxE) (d : Nat) (hd : Nat.ble 60 (d + 1) = true) (hL : E.1 ≤ 3072) (y3 : Int) (hy0 : 0 ≤ y3) (hy1 : y3 + 6 ≤ E.1) (hnext : ∀ (a b : Nat → Nat → Int) (hv : iv a) (hg0 : WFW a) (hg1 : SV a) (hg2 : OC a) (hg3 : FO a) (hg4 : FW a) (hg5 : MEMR a) (hr0 : a 0 0 = a 146 0) (hr1 : a 4 6 = a 146 2) (hr2 : a 83 6 = a 146 49), jt (jxX E d 305 1189 [some (.inr (.inr (.inl 3000))), some (.inr (.inr (.inl 0))), some (.inr (.inr (.inl 146))), some (.inl y3)] [] (jxSH, a, b)) (fun v _ _ => v = [.inl 1])) (a b : Nat → Nat → Int) (hv : iv a) (hg0 : WFW a) (hg1 : SV a) (hg2 : OC a) (hg3 : FO a) (hg4 : FW a) (hg5 : MEMR a) (hr0 : a 0 0 = a 146 0) (hr1 : a 4 6 = a 146 2) (hr2 : a 83 6 = a 146 49) : jt (jxX E d 305 375 [some (.inr (.inr (.inl 3000))), some (.inr (.inr (.inl 0))), some (.inr (.inr (.inl 146))), some (.inl y3)] [] (jxSH, a, b)) (fun v _ _ => v = [.inl 1]) := by
  refine jt_eq (bq_law_375 E d y3 a b) ?_
  have h176_ := iv_get hv (k := 0) (j := 0) (l := 0) (u := 1999) rfl
  have h177_ := iv_get hv (k := 146) (j := 0) (l := 0) (u := 1999) rfl
  have h178_ := iv_get hv (k := 4) (j := 6) (l := 0) (u := 40) rfl
  have h179_ := iv_get hv (k := 146) (j := 2) (l := 0) (u := 40) rfl
  have h180_ := iv_get hv (k := 83) (j := 6) (l := 0) (u := 20) rfl
  have h181_ := iv_get hv (k := 146) (j := 49) (l := 0) (u := 20) rfl
  refine jt_bif (Nat.ble_eq_true_of_le (by omega)) ?_
  have h182_ : jxw (y3 + 1) = y3 + 1 := jxw_id (by omega) (by omega)
  refine jt_grd (by omega) ?_
  refine jt_bI (sp_X11_end E d (jd_le hd rfl) (E.2 ((jxw (y3 + 1)).toNat)) a b hv) (fun r183_ a183_ b183_ h183_ => ?_)
  obtain ⟨hv183_, hf183_, rfl, hq183_0⟩ := h183_
  have h184_ := iv_get hv (k := 2) (j := 1) (l := 0) (u := 200) rfl
  have h185_ := iv_get hv183_ (k := 2) (j := 1) (l := 0) (u := 200) rfl
  refine jt_eq (bq_law_385 E d y3 a183_ b) ?_
  refine jt_bif (Nat.ble_eq_true_of_le (by omega)) ?_
  refine jt_grd (by omega) ?_
  refine jt_bI (sp_X12_end E d (jd_le hd rfl) (E.2 ((jxw (y3 + 1)).toNat)) a183_ b hv183_) (fun r186_ a186_ b186_ h186_ => ?_)
  obtain ⟨hv186_, hf186_, rfl, hq186_0⟩ := h186_
  have h187_ := iv_get hv183_ (k := 146) (j := 22) (l := 0) (u := 200) rfl
  have h188_ : a183_ 146 22 = a 146 22 := hf183_ 146 22 rfl
  have h189_ := iv_get hv (k := 146) (j := 22) (l := 0) (u := 200) rfl
  have h190_ := iv_get hv186_ (k := 146) (j := 22) (l := 0) (u := 200) rfl
  have h191_ := iv_get hv186_ (k := 0) (j := 0) (l := 0) (u := 1999) rfl
  have h192_ : a186_ 0 0 = a183_ 0 0 := hf186_ 0 0 rfl
  have h193_ := iv_get hv183_ (k := 0) (j := 0) (l := 0) (u := 1999) rfl
  have h194_ : a183_ 0 0 = a 0 0 := hf183_ 0 0 rfl
  have h195_ := iv_get hv186_ (k := 146) (j := 0) (l := 0) (u := 1999) rfl
  have h196_ : a186_ 146 0 = a183_ 146 0 := hf186_ 146 0 rfl
  have h197_ := iv_get hv183_ (k := 146) (j := 0) (l := 0) (u := 1999) rfl
  have h198_ : a183_ 146 0 = a 146 0 := hf183_ 146 0 rfl
  have h199_ := iv_get hv186_ (k := 4) (j := 6) (l := 0) (u := 40) rfl
  have h200_ : a186_ 4 6 = a183_ 4 6 := hf186_ 4 6 rfl
  have h201_ := iv_get hv183_ (k := 4) (j := 6) (l := 0) (u := 40) rfl
  have h202_ : a183_ 4 6 = a 4 6 := hf183_ 4 6 rfl
  have h203_ := iv_get hv186_ (k := 146) (j := 2) (l := 0) (u := 40) rfl
  have h204_ : a186_ 146 2 = a183_ 146 2 := hf186_ 146 2 rfl
  have h205_ := iv_get hv183_ (k := 146) (j := 2) (l := 0) (u := 40) rfl
  have h206_ : a183_ 146 2 = a 146 2 := hf183_ 146 2 rfl
  have h207_ := iv_get hv186_ (k := 83) (j := 6) (l := 0) (u := 20) rfl
  have h208_ : a186_ 83 6 = a183_ 83 6 := hf186_ 83 6 rfl
  have h209_ := iv_get hv183_ (k := 83) (j := 6) (l := 0) (u := 20) rfl
  have h210_ : a183_ 83 6 = a 83 6 := hf183_ 83 6 rfl
  have h211_ := iv_get hv186_ (k := 146) (j := 49) (l := 0) (u := 20) rfl
  have h212_ : a186_ 146 49 = a183_ 146 49 := hf186_ 146 49 rfl
  have h213_ := iv_get hv183_ (k := 146) (j := 49) (l := 0) (u := 20) rfl
  have h214_ : a183_ 146 49 = a 146 49 := hf183_ 146 49 rfl
  exact hnext a186_ b hv186_ (WFW_fr (WFW_fr hg0 hf183_ (fun _ => rfl) (fun _ => rfl)) hf186_ (fun _ => rfl) (fun _ => rfl)) (SV_fr (SV_fr hg1 hf183_ (fun _ => rfl) (fun _ => rfl)) hf186_ (fun _ => rfl) (fun _ => rfl)) (OC_fr (OC_fr hg2 hf183_ rfl rfl (fun _ => rfl) (fun _ => rfl) (fun _ => rfl) (fun _ => rfl) (fun _ => rfl)) hf186_ rfl rfl (fun _ => rfl) (fun _ => rfl) (fun _ => rfl) (fun _ => rfl) (fun _ => rfl)) (FO_fr (FO_fr hg3 hf183_ rfl rfl (fun _ => rfl)) hf186_ rfl rfl (fun _ => rfl)) (FW_fr (FW_fr hg4 hf183_ rfl (fun _ => rfl)) hf186_ rfl (fun _ => rfl)) (MEMR_fr (MEMR_fr hg5 hf183_ (fun _ => rfl) (fun _ => rfl) (fun _ => rfl) (fun _ => rfl) (fun _ => rfl) (fun _ => rfl) (fun _ => rfl) (fun _ => rfl) (fun _ => rfl) (fun _ => rfl)) hf186_ (fun _ => rfl) (fun _ => rfl) (fun _ => rfl) (fun _ => rfl) (fun _ => rfl) (fun _ => rfl) (fun _ => rfl) (fun _ => rfl) (fun _ => rfl) (fun _ => rfl)) (show a186_ 0 0 = a186_ 146 0 from by omega) (show a186_ 4 6 = a186_ 146 2 from by omega) (show a186_ 83 6 = a186_ 146 49 from by omega)
theorem lw_op398 (E : jxE) (d : Nat) (hd : Nat.ble 60 (d + 1) = true) (hL : E.1 ≤ 3072) (y3 : Int) (hy0 : 0 ≤ y3) (hy1 : y3 + 6 ≤ E.1) (hnext : ∀ (a b : Nat → Nat → Int) (hv : iv a) (hg0 : WFW a) (hg1 : SV a) (hg2 : OC a) (hg3 : FO a) (hg4 : FW a) (hg5 : MEMR a) (hr0 : a 0 0 = a 146 0) (hr1 : a 4 6 = a 146 2) (hr2 : a 83 6 = a 146 49), jt (jxX E d 305 1189 [some (.inr (.inr (.inl 3000))), some (.inr (.inr (.inl 0))), some (.inr (.inr (.inl 146))), some (.inl y3)] [] (jxSH, a, b)) (fun v _ _ => v = [.inl 1])) (a b : Nat → Nat → Int) (hv : iv a) (hg0 : WFW a) (hg1 : SV a) (hg2 : OC a) (hg3 : FO a) (hg4 : FW a) (hg5 : MEMR a) (hr0 : a 0 0 = a 146 0) (hr1 : a 4 6 = a 146 2) (hr2 : a 83 6 = a 146 49) : jt (jxX E d 305 398 [some (.inr (.inr (.inl 3000))), some (.inr (.inr (.inl 0))), some (.inr (.inr (.inl 146))), some (.inl y3)] [] (jxSH, a, b)) (fun v _ _ => v = [.inl 1]) := by
  refine jt_eq (bq_law_398 E d y3 a b) ?_
  have h215_ := iv_get hv (k := 0) (j := 0) (l := 0) (u := 1999) rfl
  have h216_ := iv_get hv (k := 146) (j := 0) (l := 0) (u := 1999) rfl
  have h217_ := iv_get hv (k := 4) (j := 6) (l := 0) (u := 40) rfl
  have h218_ := iv_get hv (k := 146) (j := 2) (l := 0) (u := 40) rfl
  have h219_ := iv_get hv (k := 83) (j := 6) (l := 0) (u := 20) rfl
  have h220_ := iv_get hv (k := 146) (j := 49) (l := 0) (u := 20) rfl
  refine jt_bif (Nat.ble_eq_true_of_le (by omega)) ?_
  have h221_ : jxw (y3 + 1) = y3 + 1 := jxw_id (by omega) (by omega)
  refine jt_grd (by omega) ?_
  refine jt_bI (sp_X11_wish E d (jd_le hd rfl) (E.2 ((jxw (y3 + 1)).toNat)) a b hv) (fun r222_ a222_ b222_ h222_ => ?_)
  obtain ⟨hv222_, hf222_, rfl, hq222_0⟩ := h222_
  refine jt_eq (bq_law_408 E d y3 a222_ b) ?_
  refine jt_bif (Nat.ble_eq_true_of_le (by omega)) ?_
  refine jt_grd (by omega) ?_
  refine jt_bI (sp_X12_wish E d (jd_le hd rfl) (E.2 ((jxw (y3 + 1)).toNat)) a222_ b hv222_ (WFW_fr hg0 hf222_ (fun _ => rfl) (fun _ => rfl))) (fun r223_ a223_ b223_ h223_ => ?_)
  obtain ⟨hv223_, hf223_, rfl, hq223_0, hq223_1⟩ := h223_
  have h224_ := iv_get hv222_ (k := 146) (j := 2) (l := 0) (u := 40) rfl
  have h225_ : a222_ 146 2 = a 146 2 := hf222_ 146 2 rfl
  have h226_ := iv_get hv223_ (k := 0) (j := 0) (l := 0) (u := 1999) rfl
  have h227_ : a223_ 0 0 = a222_ 0 0 := hf223_ 0 0 rfl
  have h228_ := iv_get hv222_ (k := 0) (j := 0) (l := 0) (u := 1999) rfl
  have h229_ : a222_ 0 0 = a 0 0 := hf222_ 0 0 rfl
  have h230_ := iv_get hv223_ (k := 146) (j := 0) (l := 0) (u := 1999) rfl
  have h231_ : a223_ 146 0 = a222_ 146 0 := hf223_ 146 0 rfl
  have h232_ := iv_get hv222_ (k := 146) (j := 0) (l := 0) (u := 1999) rfl
  have h233_ : a222_ 146 0 = a 146 0 := hf222_ 146 0 rfl
  have h234_ := iv_get hv223_ (k := 4) (j := 6) (l := 0) (u := 40) rfl
  have h235_ : a223_ 4 6 = a222_ 4 6 := hf223_ 4 6 rfl
  have h236_ := iv_get hv222_ (k := 4) (j := 6) (l := 0) (u := 40) rfl
  have h237_ : a222_ 4 6 = a 4 6 := hf222_ 4 6 rfl
  have h238_ := iv_get hv223_ (k := 146) (j := 2) (l := 0) (u := 40) rfl
  have h239_ : a223_ 146 2 = a222_ 146 2 := hf223_ 146 2 rfl
  have h240_ := iv_get hv223_ (k := 83) (j := 6) (l := 0) (u := 20) rfl
  have h241_ : a223_ 83 6 = a222_ 83 6 := hf223_ 83 6 rfl
  have h242_ := iv_get hv222_ (k := 83) (j := 6) (l := 0) (u := 20) rfl
  have h243_ : a222_ 83 6 = a 83 6 := hf222_ 83 6 rfl
  have h244_ := iv_get hv223_ (k := 146) (j := 49) (l := 0) (u := 20) rfl
  have h245_ : a223_ 146 49 = a222_ 146 49 := hf223_ 146 49 rfl
  have h246_ := iv_get hv222_ (k := 146) (j := 49) (l := 0) (u := 20) rfl
  have h247_ : a222_ 146 49 = a 146 49 := hf222_ 146 49 rfl
  exact hnext a223_ b hv223_ hq223_0 (SV_fr (SV_fr hg1 hf222_ (fun _ => rfl) (fun _ => rfl)) hf223_ (fun _ => rfl) (fun _ => rfl)) (OC_fr (OC_fr hg2 hf222_ rfl rfl (fun _ => rfl) (fun _ => rfl) (fun _ => rfl) (fun _ => rfl) (fun _ => rfl)) hf223_ rfl rfl (fun _ => rfl) (fun _ => rfl) (fun _ => rfl) (fun _ => rfl) (fun _ => rfl)) (FO_fr (FO_fr hg3 hf222_ rfl rfl (fun _ => rfl)) hf223_ rfl rfl (fun _ => rfl)) (FW_fr (FW_fr hg4 hf222_ rfl (fun _ => rfl)) hf223_ rfl (fun _ => rfl)) (MEMR_fr (MEMR_fr hg5 hf222_ (fun _ => rfl) (fun _ => rfl) (fun _ => rfl) (fun _ => rfl) (fun _ => rfl) (fun _ => rfl) (fun _ => rfl) (fun _ => rfl) (fun _ => rfl) (fun _ => rfl)) hf223_ (fun _ => rfl) (fun _ => rfl) (fun _ => rfl) (fun _ => rfl) (fun _ => rfl) (fun _ => rfl) (fun _ => rfl) (fun _ => rfl) (fun _ => rfl) (fun _ => rfl)) (show a223_ 0 0 = a223_ 146 0 from by omega) (show a223_ 4 6 = a223_ 146 2 from by omega) (show a223_ 83 6 = a223_ 146 49 from by omega)
theorem lw_op421 (E : jxE) (d : Nat) (hd : Nat.ble 60 (d + 1) = true) (hL : E.1 ≤ 3072) (y3 : Int) (hy0 : 0 ≤ y3) (hy1 : y3 + 6 ≤ E.1) (hnext : ∀ (a b : Nat → Nat → Int) (hv : iv a) (hg0 : WFW a) (hg1 : SV a) (hg2 : OC a) (hg3 : FO a) (hg4 : FW a) (hg5 : MEMR a) (hr0 : a 0 0 = a 146 0) (hr1 : a 4 6 = a 146 2) (hr2 : a 83 6 = a 146 49), jt (jxX E d 305 1189 [some (.inr (.inr (.inl 3000))), some (.inr (.inr (.inl 0))), some (.inr (.inr (.inl 146))), some (.inl y3)] [] (jxSH, a, b)) (fun v _ _ => v = [.inl 1])) (a b : Nat → Nat → Int) (hv : iv a) (hg0 : WFW a) (hg1 : SV a) (hg2 : OC a) (hg3 : FO a) (hg4 : FW a) (hg5 : MEMR a) (hr0 : a 0 0 = a 146 0) (hr1 : a 4 6 = a 146 2) (hr2 : a 83 6 = a 146 49) : jt (jxX E d 305 421 [some (.inr (.inr (.inl 3000))), some (.inr (.inr (.inl 0))), some (.inr (.inr (.inl 146))), some (.inl y3)] [] (jxSH, a, b)) (fun v _ _ => v = [.inl 1]) := by
  refine jt_eq (bq_law_421 E d y3 a b) ?_
  have h248_ := iv_get hv (k := 0) (j := 0) (l := 0) (u := 1999) rfl
  have h249_ := iv_get hv (k := 146) (j := 0) (l := 0) (u := 1999) rfl
  have h250_ := iv_get hv (k := 4) (j := 6) (l := 0) (u := 40) rfl
  have h251_ := iv_get hv (k := 146) (j := 2) (l := 0) (u := 40) rfl
  have h252_ := iv_get hv (k := 83) (j := 6) (l := 0) (u := 20) rfl
  have h253_ := iv_get hv (k := 146) (j := 49) (l := 0) (u := 20) rfl
  refine jt_bif (Nat.ble_eq_true_of_le (by omega)) ?_
  have h254_ : jxw (y3 + 1) = y3 + 1 := jxw_id (by omega) (by omega)
  refine jt_grd (by omega) ?_
  refine jt_bif (Nat.ble_eq_true_of_le (by omega)) ?_
  have h255_ : jxw (y3 + 2) = y3 + 2 := jxw_id (by omega) (by omega)
  refine jt_grd (by omega) ?_
  refine jt_bI (sp_X11_meets E d (jd_le hd rfl) (E.2 ((jxw (y3 + 1)).toNat)) (E.2 ((jxw (y3 + 2)).toNat)) a b hv) (fun r256_ a256_ b256_ h256_ => ?_)
  obtain ⟨rfl, rfl, hq256_0⟩ := h256_
  refine jt_eq (bq_law_436 E d y3 a b) ?_
  refine jt_bif (Nat.ble_eq_true_of_le (by omega)) ?_
  refine jt_grd (by omega) ?_
  refine jt_bif (Nat.ble_eq_true_of_le (by omega)) ?_
  refine jt_grd (by omega) ?_
  refine jt_bI (sp_X12_meets E d (jd_le hd rfl) (E.2 ((jxw (y3 + 1)).toNat)) (E.2 ((jxw (y3 + 2)).toNat)) a b hv hg0) (fun r257_ a257_ b257_ h257_ => ?_)
  obtain ⟨hv257_, hf257_, rfl, hq257_0⟩ := h257_
  have h258_ := iv_get hv257_ (k := 0) (j := 0) (l := 0) (u := 1999) rfl
  have h259_ : a257_ 0 0 = a 0 0 := hf257_ 0 0 rfl
  have h260_ := iv_get hv257_ (k := 146) (j := 0) (l := 0) (u := 1999) rfl
  have h261_ : a257_ 146 0 = a 146 0 := hf257_ 146 0 rfl
  have h262_ := iv_get hv257_ (k := 4) (j := 6) (l := 0) (u := 40) rfl
  have h263_ : a257_ 4 6 = a 4 6 := hf257_ 4 6 rfl
  have h264_ := iv_get hv257_ (k := 146) (j := 2) (l := 0) (u := 40) rfl
  have h265_ : a257_ 146 2 = a 146 2 := hf257_ 146 2 rfl
  have h266_ := iv_get hv257_ (k := 83) (j := 6) (l := 0) (u := 20) rfl
  have h267_ : a257_ 83 6 = a 83 6 := hf257_ 83 6 rfl
  have h268_ := iv_get hv257_ (k := 146) (j := 49) (l := 0) (u := 20) rfl
  have h269_ : a257_ 146 49 = a 146 49 := hf257_ 146 49 rfl
  exact hnext a257_ b hv257_ (WFW_fr hg0 hf257_ (fun _ => rfl) (fun _ => rfl)) (SV_fr hg1 hf257_ (fun _ => rfl) (fun _ => rfl)) (OC_fr hg2 hf257_ rfl rfl (fun _ => rfl) (fun _ => rfl) (fun _ => rfl) (fun _ => rfl) (fun _ => rfl)) (FO_fr hg3 hf257_ rfl rfl (fun _ => rfl)) (FW_fr hg4 hf257_ rfl (fun _ => rfl)) (MEMR_fr hg5 hf257_ (fun _ => rfl) (fun _ => rfl) (fun _ => rfl) (fun _ => rfl) (fun _ => rfl) (fun _ => rfl) (fun _ => rfl) (fun _ => rfl) (fun _ => rfl) (fun _ => rfl)) (show a257_ 0 0 = a257_ 146 0 from by omega) (show a257_ 4 6 = a257_ 146 2 from by omega) (show a257_ 83 6 = a257_ 146 49 from by omega)
theorem lw_op454 (E : jxE) (d : Nat) (hd : Nat.ble 60 (d + 1) = true) (hL : E.1 ≤ 3072) (y3 : Int) (hy0 : 0 ≤ y3) (hy1 : y3 + 6 ≤ E.1) (hnext : ∀ (a b : Nat → Nat → Int) (hv : iv a) (hg0 : WFW a) (hg1 : SV a) (hg2 : OC a) (hg3 : FO a) (hg4 : FW a) (hg5 : MEMR a) (hr0 : a 0 0 = a 146 0) (hr1 : a 4 6 = a 146 2) (hr2 : a 83 6 = a 146 49), jt (jxX E d 305 1189 [some (.inr (.inr (.inl 3000))), some (.inr (.inr (.inl 0))), some (.inr (.inr (.inl 146))), some (.inl y3)] [] (jxSH, a, b)) (fun v _ _ => v = [.inl 1])) (a b : Nat → Nat → Int) (hv : iv a) (hg0 : WFW a) (hg1 : SV a) (hg2 : OC a) (hg3 : FO a) (hg4 : FW a) (hg5 : MEMR a) (hr0 : a 0 0 = a 146 0) (hr1 : a 4 6 = a 146 2) (hr2 : a 83 6 = a 146 49) : jt (jxX E d 305 454 [some (.inr (.inr (.inl 3000))), some (.inr (.inr (.inl 0))), some (.inr (.inr (.inl 146))), some (.inl y3)] [] (jxSH, a, b)) (fun v _ _ => v = [.inl 1]) := by
  refine jt_eq (bq_law_454 E d y3 a b) ?_
  have h270_ := iv_get hv (k := 0) (j := 0) (l := 0) (u := 1999) rfl
  have h271_ := iv_get hv (k := 146) (j := 0) (l := 0) (u := 1999) rfl
  have h272_ := iv_get hv (k := 4) (j := 6) (l := 0) (u := 40) rfl
  have h273_ := iv_get hv (k := 146) (j := 2) (l := 0) (u := 40) rfl
  have h274_ := iv_get hv (k := 83) (j := 6) (l := 0) (u := 20) rfl
  have h275_ := iv_get hv (k := 146) (j := 49) (l := 0) (u := 20) rfl
  refine jt_bI (sp_X11_rules E d (jd_le hd rfl) a b hv) (fun r276_ a276_ b276_ h276_ => ?_)
  obtain ⟨hv276_, hf276_, rfl, hq276_0⟩ := h276_
  have h277_ := iv_get hv (k := 2) (j := 1) (l := 0) (u := 200) rfl
  refine jt_eq (bq_law_459 E d y3 a276_ b) ?_
  refine jt_bI (sp_X12_rules E d (jd_le hd rfl) a276_ b hv276_) (fun r278_ a278_ b278_ h278_ => ?_)
  obtain ⟨hv278_, hf278_, rfl⟩ := h278_
  have h279_ := iv_get hv278_ (k := 0) (j := 0) (l := 0) (u := 1999) rfl
  have h280_ : a278_ 0 0 = a276_ 0 0 := hf278_ 0 0 rfl
  have h281_ := iv_get hv276_ (k := 0) (j := 0) (l := 0) (u := 1999) rfl
  have h282_ : a276_ 0 0 = a 0 0 := hf276_ 0 0 rfl
  have h283_ := iv_get hv278_ (k := 146) (j := 0) (l := 0) (u := 1999) rfl
  have h284_ : a278_ 146 0 = a276_ 146 0 := hf278_ 146 0 rfl
  have h285_ := iv_get hv276_ (k := 146) (j := 0) (l := 0) (u := 1999) rfl
  have h286_ : a276_ 146 0 = a 146 0 := hf276_ 146 0 rfl
  have h287_ := iv_get hv278_ (k := 4) (j := 6) (l := 0) (u := 40) rfl
  have h288_ : a278_ 4 6 = a276_ 4 6 := hf278_ 4 6 rfl
  have h289_ := iv_get hv276_ (k := 4) (j := 6) (l := 0) (u := 40) rfl
  have h290_ : a276_ 4 6 = a 4 6 := hf276_ 4 6 rfl
  have h291_ := iv_get hv278_ (k := 146) (j := 2) (l := 0) (u := 40) rfl
  have h292_ : a278_ 146 2 = a276_ 146 2 := hf278_ 146 2 rfl
  have h293_ := iv_get hv276_ (k := 146) (j := 2) (l := 0) (u := 40) rfl
  have h294_ : a276_ 146 2 = a 146 2 := hf276_ 146 2 rfl
  have h295_ := iv_get hv278_ (k := 83) (j := 6) (l := 0) (u := 20) rfl
  have h296_ : a278_ 83 6 = a276_ 83 6 := hf278_ 83 6 rfl
  have h297_ := iv_get hv276_ (k := 83) (j := 6) (l := 0) (u := 20) rfl
  have h298_ : a276_ 83 6 = a 83 6 := hf276_ 83 6 rfl
  have h299_ := iv_get hv278_ (k := 146) (j := 49) (l := 0) (u := 20) rfl
  have h300_ : a278_ 146 49 = a276_ 146 49 := hf278_ 146 49 rfl
  have h301_ := iv_get hv276_ (k := 146) (j := 49) (l := 0) (u := 20) rfl
  have h302_ : a276_ 146 49 = a 146 49 := hf276_ 146 49 rfl
  exact hnext a278_ b hv278_ (WFW_fr (WFW_fr hg0 hf276_ (fun _ => rfl) (fun _ => rfl)) hf278_ (fun _ => rfl) (fun _ => rfl)) (SV_fr (SV_fr hg1 hf276_ (fun _ => rfl) (fun _ => rfl)) hf278_ (fun _ => rfl) (fun _ => rfl)) (OC_fr (OC_fr hg2 hf276_ rfl rfl (fun _ => rfl) (fun _ => rfl) (fun _ => rfl) (fun _ => rfl) (fun _ => rfl)) hf278_ rfl rfl (fun _ => rfl) (fun _ => rfl) (fun _ => rfl) (fun _ => rfl) (fun _ => rfl)) (FO_fr (FO_fr hg3 hf276_ rfl rfl (fun _ => rfl)) hf278_ rfl rfl (fun _ => rfl)) (FW_fr (FW_fr hg4 hf276_ rfl (fun _ => rfl)) hf278_ rfl (fun _ => rfl)) (MEMR_fr (MEMR_fr hg5 hf276_ (fun _ => rfl) (fun _ => rfl) (fun _ => rfl) (fun _ => rfl) (fun _ => rfl) (fun _ => rfl) (fun _ => rfl) (fun _ => rfl) (fun _ => rfl) (fun _ => rfl)) hf278_ (fun _ => rfl) (fun _ => rfl) (fun _ => rfl) (fun _ => rfl) (fun _ => rfl) (fun _ => rfl) (fun _ => rfl) (fun _ => rfl) (fun _ => rfl) (fun _ => rfl)) (show a278_ 0 0 = a278_ 146 0 from by omega) (show a278_ 4 6 = a278_ 146 2 from by omega) (show a278_ 83 6 = a278_ 146 49 from by omega)
theorem lw_op467 (E : jxE) (d : Nat) (hd : Nat.ble 60 (d + 1) = true) (hL : E.1 ≤ 3072) (y3 : Int) (hy0 : 0 ≤ y3) (hy1 : y3 + 6 ≤ E.1) (hnext : ∀ (a b : Nat → Nat → Int) (hv : iv a) (hg0 : WFW a) (hg1 : SV a) (hg2 : OC a) (hg3 : FO a) (hg4 : FW a) (hg5 : MEMR a) (hr0 : a 0 0 = a 146 0) (hr1 : a 4 6 = a 146 2) (hr2 : a 83 6 = a 146 49), jt (jxX E d 305 1189 [some (.inr (.inr (.inl 3000))), some (.inr (.inr (.inl 0))), some (.inr (.inr (.inl 146))), some (.inl y3)] [] (jxSH, a, b)) (fun v _ _ => v = [.inl 1])) (a b : Nat → Nat → Int) (hv : iv a) (hg0 : WFW a) (hg1 : SV a) (hg2 : OC a) (hg3 : FO a) (hg4 : FW a) (hg5 : MEMR a) (hr0 : a 0 0 = a 146 0) (hr1 : a 4 6 = a 146 2) (hr2 : a 83 6 = a 146 49) : jt (jxX E d 305 467 [some (.inr (.inr (.inl 3000))), some (.inr (.inr (.inl 0))), some (.inr (.inr (.inl 146))), some (.inl y3)] [] (jxSH, a, b)) (fun v _ _ => v = [.inl 1]) := by
  refine jt_eq (bq_law_467 E d y3 a b) ?_
  have h303_ := iv_get hv (k := 0) (j := 0) (l := 0) (u := 1999) rfl
  have h304_ := iv_get hv (k := 146) (j := 0) (l := 0) (u := 1999) rfl
  have h305_ := iv_get hv (k := 4) (j := 6) (l := 0) (u := 40) rfl
  have h306_ := iv_get hv (k := 146) (j := 2) (l := 0) (u := 40) rfl
  have h307_ := iv_get hv (k := 83) (j := 6) (l := 0) (u := 20) rfl
  have h308_ := iv_get hv (k := 146) (j := 49) (l := 0) (u := 20) rfl
  refine jt_bif (Nat.ble_eq_true_of_le (by omega)) ?_
  have h309_ : jxw (y3 + 1) = y3 + 1 := jxw_id (by omega) (by omega)
  refine jt_grd (by omega) ?_
  refine jt_bI (sp_X11_ask E d (jd_le hd rfl) (E.2 ((jxw (y3 + 1)).toNat)) a b hv) (fun r310_ a310_ b310_ h310_ => ?_)
  obtain ⟨hv310_, hf310_, rfl, hq310_0⟩ := h310_
  refine jt_eq (bq_law_477 E d y3 a310_ b) ?_
  refine jt_bif (Nat.ble_eq_true_of_le (by omega)) ?_
  refine jt_grd (by omega) ?_
  refine jt_bI (sp_X12_ask E d (jd_le hd rfl) (E.2 ((jxw (y3 + 1)).toNat)) a310_ b hv310_ (WFW_fr hg0 hf310_ (fun _ => rfl) (fun _ => rfl)) (OC_fr hg2 hf310_ rfl rfl (fun _ => rfl) (fun _ => rfl) (fun _ => rfl) (fun _ => rfl) (fun _ => rfl))) (fun r311_ a311_ b311_ h311_ => ?_)
  obtain ⟨hv311_, hf311_, rfl, hq311_0, hq311_1⟩ := h311_
  have h312_ := iv_get hv310_ (k := 146) (j := 2) (l := 0) (u := 40) rfl
  have h313_ : a310_ 146 2 = a 146 2 := hf310_ 146 2 rfl
  have h314_ := iv_get hv311_ (k := 0) (j := 0) (l := 0) (u := 1999) rfl
  have h315_ : a311_ 0 0 = a310_ 0 0 := hf311_ 0 0 rfl
  have h316_ := iv_get hv310_ (k := 0) (j := 0) (l := 0) (u := 1999) rfl
  have h317_ : a310_ 0 0 = a 0 0 := hf310_ 0 0 rfl
  have h318_ := iv_get hv311_ (k := 146) (j := 0) (l := 0) (u := 1999) rfl
  have h319_ : a311_ 146 0 = a310_ 146 0 := hf311_ 146 0 rfl
  have h320_ := iv_get hv310_ (k := 146) (j := 0) (l := 0) (u := 1999) rfl
  have h321_ : a310_ 146 0 = a 146 0 := hf310_ 146 0 rfl
  have h322_ := iv_get hv311_ (k := 4) (j := 6) (l := 0) (u := 40) rfl
  have h323_ : a311_ 4 6 = a310_ 4 6 := hf311_ 4 6 rfl
  have h324_ := iv_get hv310_ (k := 4) (j := 6) (l := 0) (u := 40) rfl
  have h325_ : a310_ 4 6 = a 4 6 := hf310_ 4 6 rfl
  have h326_ := iv_get hv311_ (k := 146) (j := 2) (l := 0) (u := 40) rfl
  have h327_ : a311_ 146 2 = a310_ 146 2 := hf311_ 146 2 rfl
  have h328_ := iv_get hv311_ (k := 83) (j := 6) (l := 0) (u := 20) rfl
  have h329_ : a311_ 83 6 = a310_ 83 6 := hf311_ 83 6 rfl
  have h330_ := iv_get hv310_ (k := 83) (j := 6) (l := 0) (u := 20) rfl
  have h331_ : a310_ 83 6 = a 83 6 := hf310_ 83 6 rfl
  have h332_ := iv_get hv311_ (k := 146) (j := 49) (l := 0) (u := 20) rfl
  have h333_ : a311_ 146 49 = a310_ 146 49 := hf311_ 146 49 rfl
  have h334_ := iv_get hv310_ (k := 146) (j := 49) (l := 0) (u := 20) rfl
  have h335_ : a310_ 146 49 = a 146 49 := hf310_ 146 49 rfl
  exact hnext a311_ b hv311_ (WFW_fr (WFW_fr hg0 hf310_ (fun _ => rfl) (fun _ => rfl)) hf311_ (fun _ => rfl) (fun _ => rfl)) (SV_fr (SV_fr hg1 hf310_ (fun _ => rfl) (fun _ => rfl)) hf311_ (fun _ => rfl) (fun _ => rfl)) hq311_0 (FO_fr (FO_fr hg3 hf310_ rfl rfl (fun _ => rfl)) hf311_ rfl rfl (fun _ => rfl)) (FW_fr (FW_fr hg4 hf310_ rfl (fun _ => rfl)) hf311_ rfl (fun _ => rfl)) (MEMR_fr (MEMR_fr hg5 hf310_ (fun _ => rfl) (fun _ => rfl) (fun _ => rfl) (fun _ => rfl) (fun _ => rfl) (fun _ => rfl) (fun _ => rfl) (fun _ => rfl) (fun _ => rfl) (fun _ => rfl)) hf311_ (fun _ => rfl) (fun _ => rfl) (fun _ => rfl) (fun _ => rfl) (fun _ => rfl) (fun _ => rfl) (fun _ => rfl) (fun _ => rfl) (fun _ => rfl) (fun _ => rfl)) (show a311_ 0 0 = a311_ 146 0 from by omega) (show a311_ 4 6 = a311_ 146 2 from by omega) (show a311_ 83 6 = a311_ 146 49 from by omega)
theorem lw_op490 (E : jxE) (d : Nat) (hd : Nat.ble 60 (d + 1) = true) (hL : E.1 ≤ 3072) (y3 : Int) (hy0 : 0 ≤ y3) (hy1 : y3 + 6 ≤ E.1) (hnext : ∀ (a b : Nat → Nat → Int) (hv : iv a) (hg0 : WFW a) (hg1 : SV a) (hg2 : OC a) (hg3 : FO a) (hg4 : FW a) (hg5 : MEMR a) (hr0 : a 0 0 = a 146 0) (hr1 : a 4 6 = a 146 2) (hr2 : a 83 6 = a 146 49), jt (jxX E d 305 1189 [some (.inr (.inr (.inl 3000))), some (.inr (.inr (.inl 0))), some (.inr (.inr (.inl 146))), some (.inl y3)] [] (jxSH, a, b)) (fun v _ _ => v = [.inl 1])) (a b : Nat → Nat → Int) (hv : iv a) (hg0 : WFW a) (hg1 : SV a) (hg2 : OC a) (hg3 : FO a) (hg4 : FW a) (hg5 : MEMR a) (hr0 : a 0 0 = a 146 0) (hr1 : a 4 6 = a 146 2) (hr2 : a 83 6 = a 146 49) : jt (jxX E d 305 490 [some (.inr (.inr (.inl 3000))), some (.inr (.inr (.inl 0))), some (.inr (.inr (.inl 146))), some (.inl y3)] [] (jxSH, a, b)) (fun v _ _ => v = [.inl 1]) := by
  refine jt_eq (bq_law_490 E d y3 a b) ?_
  have h336_ := iv_get hv (k := 0) (j := 0) (l := 0) (u := 1999) rfl
  have h337_ := iv_get hv (k := 146) (j := 0) (l := 0) (u := 1999) rfl
  have h338_ := iv_get hv (k := 4) (j := 6) (l := 0) (u := 40) rfl
  have h339_ := iv_get hv (k := 146) (j := 2) (l := 0) (u := 40) rfl
  have h340_ := iv_get hv (k := 83) (j := 6) (l := 0) (u := 20) rfl
  have h341_ := iv_get hv (k := 146) (j := 49) (l := 0) (u := 20) rfl
  refine jt_bif (Nat.ble_eq_true_of_le (by omega)) ?_
  have h342_ : jxw (y3 + 1) = y3 + 1 := jxw_id (by omega) (by omega)
  refine jt_grd (by omega) ?_
  refine jt_bif (Nat.ble_eq_true_of_le (by omega)) ?_
  have h343_ : jxw (y3 + 2) = y3 + 2 := jxw_id (by omega) (by omega)
  refine jt_grd (by omega) ?_
  refine jt_bI (sp_X11_may E d (jd_le hd rfl) (E.2 ((jxw (y3 + 1)).toNat)) (E.2 ((jxw (y3 + 2)).toNat)) a b hv) (fun r344_ a344_ b344_ h344_ => ?_)
  obtain ⟨hv344_, hf344_, rfl, hq344_0⟩ := h344_
  refine jt_eq (bq_law_505 E d y3 a344_ b) ?_
  refine jt_bif (Nat.ble_eq_true_of_le (by omega)) ?_
  refine jt_grd (by omega) ?_
  refine jt_bif (Nat.ble_eq_true_of_le (by omega)) ?_
  refine jt_grd (by omega) ?_
  refine jt_bI (sp_X12_may E d (jd_le hd rfl) (E.2 ((jxw (y3 + 1)).toNat)) (E.2 ((jxw (y3 + 2)).toNat)) a344_ b hv344_ (WFW_fr hg0 hf344_ (fun _ => rfl) (fun _ => rfl))) (fun r345_ a345_ b345_ h345_ => ?_)
  obtain ⟨hv345_, hf345_, rfl, hq345_0⟩ := h345_
  have h346_ := iv_get hv344_ (k := 146) (j := 2) (l := 0) (u := 40) rfl
  have h347_ : a344_ 146 2 = a 146 2 := hf344_ 146 2 rfl
  have h348_ := iv_get hv345_ (k := 0) (j := 0) (l := 0) (u := 1999) rfl
  have h349_ : a345_ 0 0 = a344_ 0 0 := hf345_ 0 0 rfl
  have h350_ := iv_get hv344_ (k := 0) (j := 0) (l := 0) (u := 1999) rfl
  have h351_ : a344_ 0 0 = a 0 0 := hf344_ 0 0 rfl
  have h352_ := iv_get hv345_ (k := 146) (j := 0) (l := 0) (u := 1999) rfl
  have h353_ : a345_ 146 0 = a344_ 146 0 := hf345_ 146 0 rfl
  have h354_ := iv_get hv344_ (k := 146) (j := 0) (l := 0) (u := 1999) rfl
  have h355_ : a344_ 146 0 = a 146 0 := hf344_ 146 0 rfl
  have h356_ := iv_get hv345_ (k := 4) (j := 6) (l := 0) (u := 40) rfl
  have h357_ : a345_ 4 6 = a344_ 4 6 := hf345_ 4 6 rfl
  have h358_ := iv_get hv344_ (k := 4) (j := 6) (l := 0) (u := 40) rfl
  have h359_ : a344_ 4 6 = a 4 6 := hf344_ 4 6 rfl
  have h360_ := iv_get hv345_ (k := 146) (j := 2) (l := 0) (u := 40) rfl
  have h361_ : a345_ 146 2 = a344_ 146 2 := hf345_ 146 2 rfl
  have h362_ := iv_get hv345_ (k := 83) (j := 6) (l := 0) (u := 20) rfl
  have h363_ : a345_ 83 6 = a344_ 83 6 := hf345_ 83 6 rfl
  have h364_ := iv_get hv344_ (k := 83) (j := 6) (l := 0) (u := 20) rfl
  have h365_ : a344_ 83 6 = a 83 6 := hf344_ 83 6 rfl
  have h366_ := iv_get hv345_ (k := 146) (j := 49) (l := 0) (u := 20) rfl
  have h367_ : a345_ 146 49 = a344_ 146 49 := hf345_ 146 49 rfl
  have h368_ := iv_get hv344_ (k := 146) (j := 49) (l := 0) (u := 20) rfl
  have h369_ : a344_ 146 49 = a 146 49 := hf344_ 146 49 rfl
  exact hnext a345_ b hv345_ (WFW_fr (WFW_fr hg0 hf344_ (fun _ => rfl) (fun _ => rfl)) hf345_ (fun _ => rfl) (fun _ => rfl)) (SV_fr (SV_fr hg1 hf344_ (fun _ => rfl) (fun _ => rfl)) hf345_ (fun _ => rfl) (fun _ => rfl)) (OC_fr (OC_fr hg2 hf344_ rfl rfl (fun _ => rfl) (fun _ => rfl) (fun _ => rfl) (fun _ => rfl) (fun _ => rfl)) hf345_ rfl rfl (fun _ => rfl) (fun _ => rfl) (fun _ => rfl) (fun _ => rfl) (fun _ => rfl)) (FO_fr (FO_fr hg3 hf344_ rfl rfl (fun _ => rfl)) hf345_ rfl rfl (fun _ => rfl)) (FW_fr (FW_fr hg4 hf344_ rfl (fun _ => rfl)) hf345_ rfl (fun _ => rfl)) (MEMR_fr (MEMR_fr hg5 hf344_ (fun _ => rfl) (fun _ => rfl) (fun _ => rfl) (fun _ => rfl) (fun _ => rfl) (fun _ => rfl) (fun _ => rfl) (fun _ => rfl) (fun _ => rfl) (fun _ => rfl)) hf345_ (fun _ => rfl) (fun _ => rfl) (fun _ => rfl) (fun _ => rfl) (fun _ => rfl) (fun _ => rfl) (fun _ => rfl) (fun _ => rfl) (fun _ => rfl) (fun _ => rfl)) (show a345_ 0 0 = a345_ 146 0 from by omega) (show a345_ 4 6 = a345_ 146 2 from by omega) (show a345_ 83 6 = a345_ 146 49 from by omega)
theorem lw_op523 (E : jxE) (d : Nat) (hd : Nat.ble 60 (d + 1) = true) (hL : E.1 ≤ 3072) (y3 : Int) (hy0 : 0 ≤ y3) (hy1 : y3 + 6 ≤ E.1) (hnext : ∀ (a b : Nat → Nat → Int) (hv : iv a) (hg0 : WFW a) (hg1 : SV a) (hg2 : OC a) (hg3 : FO a) (hg4 : FW a) (hg5 : MEMR a) (hr0 : a 0 0 = a 146 0) (hr1 : a 4 6 = a 146 2) (hr2 : a 83 6 = a 146 49), jt (jxX E d 305 1189 [some (.inr (.inr (.inl 3000))), some (.inr (.inr (.inl 0))), some (.inr (.inr (.inl 146))), some (.inl y3)] [] (jxSH, a, b)) (fun v _ _ => v = [.inl 1])) (a b : Nat → Nat → Int) (hv : iv a) (hg0 : WFW a) (hg1 : SV a) (hg2 : OC a) (hg3 : FO a) (hg4 : FW a) (hg5 : MEMR a) (hr0 : a 0 0 = a 146 0) (hr1 : a 4 6 = a 146 2) (hr2 : a 83 6 = a 146 49) : jt (jxX E d 305 523 [some (.inr (.inr (.inl 3000))), some (.inr (.inr (.inl 0))), some (.inr (.inr (.inl 146))), some (.inl y3)] [] (jxSH, a, b)) (fun v _ _ => v = [.inl 1]) := by
  refine jt_eq (bq_law_523 E d y3 a b) ?_
  have h370_ := iv_get hv (k := 0) (j := 0) (l := 0) (u := 1999) rfl
  have h371_ := iv_get hv (k := 146) (j := 0) (l := 0) (u := 1999) rfl
  have h372_ := iv_get hv (k := 4) (j := 6) (l := 0) (u := 40) rfl
  have h373_ := iv_get hv (k := 146) (j := 2) (l := 0) (u := 40) rfl
  have h374_ := iv_get hv (k := 83) (j := 6) (l := 0) (u := 20) rfl
  have h375_ := iv_get hv (k := 146) (j := 49) (l := 0) (u := 20) rfl
  refine jt_bif (Nat.ble_eq_true_of_le (by omega)) ?_
  have h376_ : jxw (y3 + 1) = y3 + 1 := jxw_id (by omega) (by omega)
  refine jt_grd (by omega) ?_
  refine jt_bI (sp_X11_list E d (jd_le hd rfl) (E.2 ((jxw (y3 + 1)).toNat)) a b hv) (fun r377_ a377_ b377_ h377_ => ?_)
  obtain ⟨hv377_, hf377_, rfl, hq377_0⟩ := h377_
  refine jt_eq (bq_law_533 E d y3 a377_ b) ?_
  refine jt_bif (Nat.ble_eq_true_of_le (by omega)) ?_
  refine jt_grd (by omega) ?_
  refine jt_bI (sp_X12_list E d (jd_le hd rfl) (E.2 ((jxw (y3 + 1)).toNat)) a377_ b hv377_) (fun r378_ a378_ b378_ h378_ => ?_)
  obtain ⟨hv378_, hf378_, rfl, hq378_0⟩ := h378_
  have h379_ := iv_get hv377_ (k := 146) (j := 2) (l := 0) (u := 40) rfl
  have h380_ : a377_ 146 2 = a 146 2 := hf377_ 146 2 rfl
  have h381_ := iv_get hv378_ (k := 0) (j := 0) (l := 0) (u := 1999) rfl
  have h382_ : a378_ 0 0 = a377_ 0 0 := hf378_ 0 0 rfl
  have h383_ := iv_get hv377_ (k := 0) (j := 0) (l := 0) (u := 1999) rfl
  have h384_ : a377_ 0 0 = a 0 0 := hf377_ 0 0 rfl
  have h385_ := iv_get hv378_ (k := 146) (j := 0) (l := 0) (u := 1999) rfl
  have h386_ : a378_ 146 0 = a377_ 146 0 := hf378_ 146 0 rfl
  have h387_ := iv_get hv377_ (k := 146) (j := 0) (l := 0) (u := 1999) rfl
  have h388_ : a377_ 146 0 = a 146 0 := hf377_ 146 0 rfl
  have h389_ := iv_get hv378_ (k := 4) (j := 6) (l := 0) (u := 40) rfl
  have h390_ : a378_ 4 6 = a377_ 4 6 := hf378_ 4 6 rfl
  have h391_ := iv_get hv377_ (k := 4) (j := 6) (l := 0) (u := 40) rfl
  have h392_ : a377_ 4 6 = a 4 6 := hf377_ 4 6 rfl
  have h393_ := iv_get hv378_ (k := 146) (j := 2) (l := 0) (u := 40) rfl
  have h394_ : a378_ 146 2 = a377_ 146 2 := hf378_ 146 2 rfl
  have h395_ := iv_get hv378_ (k := 83) (j := 6) (l := 0) (u := 20) rfl
  have h396_ : a378_ 83 6 = a377_ 83 6 := hf378_ 83 6 rfl
  have h397_ := iv_get hv377_ (k := 83) (j := 6) (l := 0) (u := 20) rfl
  have h398_ : a377_ 83 6 = a 83 6 := hf377_ 83 6 rfl
  have h399_ := iv_get hv378_ (k := 146) (j := 49) (l := 0) (u := 20) rfl
  have h400_ : a378_ 146 49 = a377_ 146 49 := hf378_ 146 49 rfl
  have h401_ := iv_get hv377_ (k := 146) (j := 49) (l := 0) (u := 20) rfl
  have h402_ : a377_ 146 49 = a 146 49 := hf377_ 146 49 rfl
  exact hnext a378_ b hv378_ (WFW_fr (WFW_fr hg0 hf377_ (fun _ => rfl) (fun _ => rfl)) hf378_ (fun _ => rfl) (fun _ => rfl)) (SV_fr (SV_fr hg1 hf377_ (fun _ => rfl) (fun _ => rfl)) hf378_ (fun _ => rfl) (fun _ => rfl)) (OC_fr (OC_fr hg2 hf377_ rfl rfl (fun _ => rfl) (fun _ => rfl) (fun _ => rfl) (fun _ => rfl) (fun _ => rfl)) hf378_ rfl rfl (fun _ => rfl) (fun _ => rfl) (fun _ => rfl) (fun _ => rfl) (fun _ => rfl)) (FO_fr (FO_fr hg3 hf377_ rfl rfl (fun _ => rfl)) hf378_ rfl rfl (fun _ => rfl)) (FW_fr (FW_fr hg4 hf377_ rfl (fun _ => rfl)) hf378_ rfl (fun _ => rfl)) (MEMR_fr (MEMR_fr hg5 hf377_ (fun _ => rfl) (fun _ => rfl) (fun _ => rfl) (fun _ => rfl) (fun _ => rfl) (fun _ => rfl) (fun _ => rfl) (fun _ => rfl) (fun _ => rfl) (fun _ => rfl)) hf378_ (fun _ => rfl) (fun _ => rfl) (fun _ => rfl) (fun _ => rfl) (fun _ => rfl) (fun _ => rfl) (fun _ => rfl) (fun _ => rfl) (fun _ => rfl) (fun _ => rfl)) (show a378_ 0 0 = a378_ 146 0 from by omega) (show a378_ 4 6 = a378_ 146 2 from by omega) (show a378_ 83 6 = a378_ 146 49 from by omega)
theorem lw_op546 (E : jxE) (d : Nat) (hd : Nat.ble 60 (d + 1) = true) (hL : E.1 ≤ 3072) (y3 : Int) (hy0 : 0 ≤ y3) (hy1 : y3 + 6 ≤ E.1) (hnext : ∀ (a b : Nat → Nat → Int) (hv : iv a) (hg0 : WFW a) (hg1 : SV a) (hg2 : OC a) (hg3 : FO a) (hg4 : FW a) (hg5 : MEMR a) (hr0 : a 0 0 = a 146 0) (hr1 : a 4 6 = a 146 2) (hr2 : a 83 6 = a 146 49), jt (jxX E d 305 1189 [some (.inr (.inr (.inl 3000))), some (.inr (.inr (.inl 0))), some (.inr (.inr (.inl 146))), some (.inl y3)] [] (jxSH, a, b)) (fun v _ _ => v = [.inl 1])) (a b : Nat → Nat → Int) (hv : iv a) (hg0 : WFW a) (hg1 : SV a) (hg2 : OC a) (hg3 : FO a) (hg4 : FW a) (hg5 : MEMR a) (hr0 : a 0 0 = a 146 0) (hr1 : a 4 6 = a 146 2) (hr2 : a 83 6 = a 146 49) : jt (jxX E d 305 546 [some (.inr (.inr (.inl 3000))), some (.inr (.inr (.inl 0))), some (.inr (.inr (.inl 146))), some (.inl y3)] [] (jxSH, a, b)) (fun v _ _ => v = [.inl 1]) := by
  refine jt_eq (bq_law_546 E d y3 a b) ?_
  have h403_ := iv_get hv (k := 0) (j := 0) (l := 0) (u := 1999) rfl
  have h404_ := iv_get hv (k := 146) (j := 0) (l := 0) (u := 1999) rfl
  have h405_ := iv_get hv (k := 4) (j := 6) (l := 0) (u := 40) rfl
  have h406_ := iv_get hv (k := 146) (j := 2) (l := 0) (u := 40) rfl
  have h407_ := iv_get hv (k := 83) (j := 6) (l := 0) (u := 20) rfl
  have h408_ := iv_get hv (k := 146) (j := 49) (l := 0) (u := 20) rfl
  refine jt_bI (sp_X11_give E d (jd_le hd rfl) a b hv) (fun r409_ a409_ b409_ h409_ => ?_)
  obtain ⟨hv409_, hf409_, hq409_0⟩ := h409_
  have h410_ := iv_get hv (k := 0) (j := 9) (l := 0) (u := 8) rfl
  refine jt_eq (bq_law_551 E d y3 a409_ b409_) ?_
  refine jt_bI (sp_X12_give E d (jd_le hd rfl) a409_ b409_ hv409_ (WFW_fr hg0 hf409_ (fun _ => rfl) (fun _ => rfl)) (OC_fr hg2 hf409_ rfl rfl (fun _ => rfl) (fun _ => rfl) (fun _ => rfl) (fun _ => rfl) (fun _ => rfl))) (fun r411_ a411_ b411_ h411_ => ?_)
  obtain ⟨hv411_, hf411_, hq411_0, hq411_1⟩ := h411_
  have h412_ := iv_get hv409_ (k := 146) (j := 42) (l := 0) (u := 8) rfl
  have h413_ : a409_ 146 42 = a 146 42 := hf409_ 146 42 rfl
  have h414_ := iv_get hv (k := 146) (j := 42) (l := 0) (u := 8) rfl
  have h415_ := iv_get hv411_ (k := 0) (j := 0) (l := 0) (u := 1999) rfl
  have h416_ : a411_ 0 0 = a409_ 0 0 := hf411_ 0 0 rfl
  have h417_ := iv_get hv409_ (k := 0) (j := 0) (l := 0) (u := 1999) rfl
  have h418_ : a409_ 0 0 = a 0 0 := hf409_ 0 0 rfl
  have h419_ := iv_get hv411_ (k := 146) (j := 0) (l := 0) (u := 1999) rfl
  have h420_ : a411_ 146 0 = a409_ 146 0 := hf411_ 146 0 rfl
  have h421_ := iv_get hv409_ (k := 146) (j := 0) (l := 0) (u := 1999) rfl
  have h422_ : a409_ 146 0 = a 146 0 := hf409_ 146 0 rfl
  have h423_ := iv_get hv411_ (k := 4) (j := 6) (l := 0) (u := 40) rfl
  have h424_ : a411_ 4 6 = a409_ 4 6 := hf411_ 4 6 rfl
  have h425_ := iv_get hv409_ (k := 4) (j := 6) (l := 0) (u := 40) rfl
  have h426_ : a409_ 4 6 = a 4 6 := hf409_ 4 6 rfl
  have h427_ := iv_get hv411_ (k := 146) (j := 2) (l := 0) (u := 40) rfl
  have h428_ : a411_ 146 2 = a409_ 146 2 := hf411_ 146 2 rfl
  have h429_ := iv_get hv409_ (k := 146) (j := 2) (l := 0) (u := 40) rfl
  have h430_ : a409_ 146 2 = a 146 2 := hf409_ 146 2 rfl
  have h431_ := iv_get hv411_ (k := 83) (j := 6) (l := 0) (u := 20) rfl
  have h432_ : a411_ 83 6 = a409_ 83 6 := hf411_ 83 6 rfl
  have h433_ := iv_get hv409_ (k := 83) (j := 6) (l := 0) (u := 20) rfl
  have h434_ : a409_ 83 6 = a 83 6 := hf409_ 83 6 rfl
  have h435_ := iv_get hv411_ (k := 146) (j := 49) (l := 0) (u := 20) rfl
  have h436_ : a411_ 146 49 = a409_ 146 49 := hf411_ 146 49 rfl
  have h437_ := iv_get hv409_ (k := 146) (j := 49) (l := 0) (u := 20) rfl
  have h438_ : a409_ 146 49 = a 146 49 := hf409_ 146 49 rfl
  exact hnext a411_ b411_ hv411_ (WFW_fr (WFW_fr hg0 hf409_ (fun _ => rfl) (fun _ => rfl)) hf411_ (fun _ => rfl) (fun _ => rfl)) (SV_fr (SV_fr hg1 hf409_ (fun _ => rfl) (fun _ => rfl)) hf411_ (fun _ => rfl) (fun _ => rfl)) hq411_0 (FO_fr (FO_fr hg3 hf409_ rfl rfl (fun _ => rfl)) hf411_ rfl rfl (fun _ => rfl)) (FW_fr (FW_fr hg4 hf409_ rfl (fun _ => rfl)) hf411_ rfl (fun _ => rfl)) (MEMR_fr (MEMR_fr hg5 hf409_ (fun _ => rfl) (fun _ => rfl) (fun _ => rfl) (fun _ => rfl) (fun _ => rfl) (fun _ => rfl) (fun _ => rfl) (fun _ => rfl) (fun _ => rfl) (fun _ => rfl)) hf411_ (fun _ => rfl) (fun _ => rfl) (fun _ => rfl) (fun _ => rfl) (fun _ => rfl) (fun _ => rfl) (fun _ => rfl) (fun _ => rfl) (fun _ => rfl) (fun _ => rfl)) (show a411_ 0 0 = a411_ 146 0 from by omega) (show a411_ 4 6 = a411_ 146 2 from by omega) (show a411_ 83 6 = a411_ 146 49 from by omega)
theorem lw_op559 (E : jxE) (d : Nat) (hd : Nat.ble 60 (d + 1) = true) (hL : E.1 ≤ 3072) (y3 : Int) (hy0 : 0 ≤ y3) (hy1 : y3 + 6 ≤ E.1) (hnext : ∀ (a b : Nat → Nat → Int) (hv : iv a) (hg0 : WFW a) (hg1 : SV a) (hg2 : OC a) (hg3 : FO a) (hg4 : FW a) (hg5 : MEMR a) (hr0 : a 0 0 = a 146 0) (hr1 : a 4 6 = a 146 2) (hr2 : a 83 6 = a 146 49), jt (jxX E d 305 1189 [some (.inr (.inr (.inl 3000))), some (.inr (.inr (.inl 0))), some (.inr (.inr (.inl 146))), some (.inl y3)] [] (jxSH, a, b)) (fun v _ _ => v = [.inl 1])) (a b : Nat → Nat → Int) (hv : iv a) (hg0 : WFW a) (hg1 : SV a) (hg2 : OC a) (hg3 : FO a) (hg4 : FW a) (hg5 : MEMR a) (hr0 : a 0 0 = a 146 0) (hr1 : a 4 6 = a 146 2) (hr2 : a 83 6 = a 146 49) : jt (jxX E d 305 559 [some (.inr (.inr (.inl 3000))), some (.inr (.inr (.inl 0))), some (.inr (.inr (.inl 146))), some (.inl y3)] [] (jxSH, a, b)) (fun v _ _ => v = [.inl 1]) := by
  refine jt_eq (bq_law_559 E d y3 a b) ?_
  have h439_ := iv_get hv (k := 0) (j := 0) (l := 0) (u := 1999) rfl
  have h440_ := iv_get hv (k := 146) (j := 0) (l := 0) (u := 1999) rfl
  have h441_ := iv_get hv (k := 4) (j := 6) (l := 0) (u := 40) rfl
  have h442_ := iv_get hv (k := 146) (j := 2) (l := 0) (u := 40) rfl
  have h443_ := iv_get hv (k := 83) (j := 6) (l := 0) (u := 20) rfl
  have h444_ := iv_get hv (k := 146) (j := 49) (l := 0) (u := 20) rfl
  refine jt_bif (Nat.ble_eq_true_of_le (by omega)) ?_
  have h445_ : jxw (y3 + 1) = y3 + 1 := jxw_id (by omega) (by omega)
  refine jt_grd (by omega) ?_
  refine jt_bif (Nat.ble_eq_true_of_le (by omega)) ?_
  have h446_ : jxw (y3 + 2) = y3 + 2 := jxw_id (by omega) (by omega)
  refine jt_grd (by omega) ?_
  refine jt_bI (sp_X11_arrive E d (jd_le hd rfl) (E.2 ((jxw (y3 + 1)).toNat)) (E.2 ((jxw (y3 + 2)).toNat)) a b hv) (fun r447_ a447_ b447_ h447_ => ?_)
  obtain ⟨hv447_, hf447_, rfl, hq447_0, hq447_1⟩ := h447_
  have h448_ := iv_get hv (k := 58) (j := 8) (l := 0) (u := 300) rfl
  refine jt_eq (bq_law_574 E d y3 a447_ b) ?_
  refine jt_bif (Nat.ble_eq_true_of_le (by omega)) ?_
  refine jt_grd (by omega) ?_
  refine jt_bif (Nat.ble_eq_true_of_le (by omega)) ?_
  refine jt_grd (by omega) ?_
  refine jt_bI (sp_X12_arrive E d (jd_le hd rfl) (E.2 ((jxw (y3 + 1)).toNat)) (E.2 ((jxw (y3 + 2)).toNat)) a447_ b hv447_) (fun r449_ a449_ b449_ h449_ => ?_)
  obtain ⟨hv449_, hf449_, rfl, hq449_0, hq449_1⟩ := h449_
  have h450_ := iv_get hv447_ (k := 146) (j := 9) (l := 0) (u := 300) rfl
  have h451_ : a447_ 146 9 = a 146 9 := hf447_ 146 9 rfl
  have h452_ := iv_get hv (k := 146) (j := 9) (l := 0) (u := 300) rfl
  have h453_ := iv_get hv449_ (k := 0) (j := 0) (l := 0) (u := 1999) rfl
  have h454_ : a449_ 0 0 = a447_ 0 0 := hf449_ 0 0 rfl
  have h455_ := iv_get hv447_ (k := 0) (j := 0) (l := 0) (u := 1999) rfl
  have h456_ : a447_ 0 0 = a 0 0 := hf447_ 0 0 rfl
  have h457_ := iv_get hv449_ (k := 146) (j := 0) (l := 0) (u := 1999) rfl
  have h458_ : a449_ 146 0 = a447_ 146 0 := hf449_ 146 0 rfl
  have h459_ := iv_get hv447_ (k := 146) (j := 0) (l := 0) (u := 1999) rfl
  have h460_ : a447_ 146 0 = a 146 0 := hf447_ 146 0 rfl
  have h461_ := iv_get hv449_ (k := 4) (j := 6) (l := 0) (u := 40) rfl
  have h462_ : a449_ 4 6 = a447_ 4 6 := hf449_ 4 6 rfl
  have h463_ := iv_get hv447_ (k := 4) (j := 6) (l := 0) (u := 40) rfl
  have h464_ : a447_ 4 6 = a 4 6 := hf447_ 4 6 rfl
  have h465_ := iv_get hv449_ (k := 146) (j := 2) (l := 0) (u := 40) rfl
  have h466_ : a449_ 146 2 = a447_ 146 2 := hf449_ 146 2 rfl
  have h467_ := iv_get hv447_ (k := 146) (j := 2) (l := 0) (u := 40) rfl
  have h468_ : a447_ 146 2 = a 146 2 := hf447_ 146 2 rfl
  have h469_ := iv_get hv449_ (k := 83) (j := 6) (l := 0) (u := 20) rfl
  have h470_ : a449_ 83 6 = a447_ 83 6 := hf449_ 83 6 rfl
  have h471_ := iv_get hv447_ (k := 83) (j := 6) (l := 0) (u := 20) rfl
  have h472_ : a447_ 83 6 = a 83 6 := hf447_ 83 6 rfl
  have h473_ := iv_get hv449_ (k := 146) (j := 49) (l := 0) (u := 20) rfl
  have h474_ : a449_ 146 49 = a447_ 146 49 := hf449_ 146 49 rfl
  have h475_ := iv_get hv447_ (k := 146) (j := 49) (l := 0) (u := 20) rfl
  have h476_ : a447_ 146 49 = a 146 49 := hf447_ 146 49 rfl
  exact hnext a449_ b hv449_ (WFW_fr (WFW_fr hg0 hf447_ (fun _ => rfl) (fun _ => rfl)) hf449_ (fun _ => rfl) (fun _ => rfl)) (SV_fr (SV_fr hg1 hf447_ (fun _ => rfl) (fun _ => rfl)) hf449_ (fun _ => rfl) (fun _ => rfl)) (OC_fr (OC_fr hg2 hf447_ rfl rfl (fun _ => rfl) (fun _ => rfl) (fun _ => rfl) (fun _ => rfl) (fun _ => rfl)) hf449_ rfl rfl (fun _ => rfl) (fun _ => rfl) (fun _ => rfl) (fun _ => rfl) (fun _ => rfl)) (FO_fr (FO_fr hg3 hf447_ rfl rfl (fun _ => rfl)) hf449_ rfl rfl (fun _ => rfl)) (FW_fr (FW_fr hg4 hf447_ rfl (fun _ => rfl)) hf449_ rfl (fun _ => rfl)) (MEMR_fr (MEMR_fr hg5 hf447_ (fun _ => rfl) (fun _ => rfl) (fun _ => rfl) (fun _ => rfl) (fun _ => rfl) (fun _ => rfl) (fun _ => rfl) (fun _ => rfl) (fun _ => rfl) (fun _ => rfl)) hf449_ (fun _ => rfl) (fun _ => rfl) (fun _ => rfl) (fun _ => rfl) (fun _ => rfl) (fun _ => rfl) (fun _ => rfl) (fun _ => rfl) (fun _ => rfl) (fun _ => rfl)) (show a449_ 0 0 = a449_ 146 0 from by omega) (show a449_ 4 6 = a449_ 146 2 from by omega) (show a449_ 83 6 = a449_ 146 49 from by omega)
theorem lw_op592 (E : jxE) (d : Nat) (hd : Nat.ble 60 (d + 1) = true) (hL : E.1 ≤ 3072) (y3 : Int) (hy0 : 0 ≤ y3) (hy1 : y3 + 6 ≤ E.1) (hnext : ∀ (a b : Nat → Nat → Int) (hv : iv a) (hg0 : WFW a) (hg1 : SV a) (hg2 : OC a) (hg3 : FO a) (hg4 : FW a) (hg5 : MEMR a) (hr0 : a 0 0 = a 146 0) (hr1 : a 4 6 = a 146 2) (hr2 : a 83 6 = a 146 49), jt (jxX E d 305 1189 [some (.inr (.inr (.inl 3000))), some (.inr (.inr (.inl 0))), some (.inr (.inr (.inl 146))), some (.inl y3)] [] (jxSH, a, b)) (fun v _ _ => v = [.inl 1])) (a b : Nat → Nat → Int) (hv : iv a) (hg0 : WFW a) (hg1 : SV a) (hg2 : OC a) (hg3 : FO a) (hg4 : FW a) (hg5 : MEMR a) (hr0 : a 0 0 = a 146 0) (hr1 : a 4 6 = a 146 2) (hr2 : a 83 6 = a 146 49) : jt (jxX E d 305 592 [some (.inr (.inr (.inl 3000))), some (.inr (.inr (.inl 0))), some (.inr (.inr (.inl 146))), some (.inl y3)] [] (jxSH, a, b)) (fun v _ _ => v = [.inl 1]) := by
  refine jt_eq (bq_law_592 E d y3 a b) ?_
  have h477_ := iv_get hv (k := 0) (j := 0) (l := 0) (u := 1999) rfl
  have h478_ := iv_get hv (k := 146) (j := 0) (l := 0) (u := 1999) rfl
  have h479_ := iv_get hv (k := 4) (j := 6) (l := 0) (u := 40) rfl
  have h480_ := iv_get hv (k := 146) (j := 2) (l := 0) (u := 40) rfl
  have h481_ := iv_get hv (k := 83) (j := 6) (l := 0) (u := 20) rfl
  have h482_ := iv_get hv (k := 146) (j := 49) (l := 0) (u := 20) rfl
  refine jt_bif (Nat.ble_eq_true_of_le (by omega)) ?_
  have h483_ : jxw (y3 + 1) = y3 + 1 := jxw_id (by omega) (by omega)
  refine jt_grd (by omega) ?_
  refine jt_bI (sp_X11_back E d (jd_le hd rfl) (E.2 ((jxw (y3 + 1)).toNat)) a b hv) (fun r484_ a484_ b484_ h484_ => ?_)
  obtain ⟨hv484_, hf484_, rfl, hq484_0, hq484_1⟩ := h484_
  have h485_ := iv_get hv (k := 58) (j := 8) (l := 0) (u := 300) rfl
  refine jt_eq (bq_law_602 E d y3 a484_ b) ?_
  refine jt_bif (Nat.ble_eq_true_of_le (by omega)) ?_
  refine jt_grd (by omega) ?_
  refine jt_bI (sp_X12_back E d (jd_le hd rfl) (E.2 ((jxw (y3 + 1)).toNat)) a484_ b hv484_) (fun r486_ a486_ b486_ h486_ => ?_)
  obtain ⟨hv486_, hf486_, rfl, hq486_0, hq486_1⟩ := h486_
  have h487_ := iv_get hv484_ (k := 146) (j := 9) (l := 0) (u := 300) rfl
  have h488_ : a484_ 146 9 = a 146 9 := hf484_ 146 9 rfl
  have h489_ := iv_get hv (k := 146) (j := 9) (l := 0) (u := 300) rfl
  have h490_ := iv_get hv486_ (k := 0) (j := 0) (l := 0) (u := 1999) rfl
  have h491_ : a486_ 0 0 = a484_ 0 0 := hf486_ 0 0 rfl
  have h492_ := iv_get hv484_ (k := 0) (j := 0) (l := 0) (u := 1999) rfl
  have h493_ : a484_ 0 0 = a 0 0 := hf484_ 0 0 rfl
  have h494_ := iv_get hv486_ (k := 146) (j := 0) (l := 0) (u := 1999) rfl
  have h495_ : a486_ 146 0 = a484_ 146 0 := hf486_ 146 0 rfl
  have h496_ := iv_get hv484_ (k := 146) (j := 0) (l := 0) (u := 1999) rfl
  have h497_ : a484_ 146 0 = a 146 0 := hf484_ 146 0 rfl
  have h498_ := iv_get hv486_ (k := 4) (j := 6) (l := 0) (u := 40) rfl
  have h499_ : a486_ 4 6 = a484_ 4 6 := hf486_ 4 6 rfl
  have h500_ := iv_get hv484_ (k := 4) (j := 6) (l := 0) (u := 40) rfl
  have h501_ : a484_ 4 6 = a 4 6 := hf484_ 4 6 rfl
  have h502_ := iv_get hv486_ (k := 146) (j := 2) (l := 0) (u := 40) rfl
  have h503_ : a486_ 146 2 = a484_ 146 2 := hf486_ 146 2 rfl
  have h504_ := iv_get hv484_ (k := 146) (j := 2) (l := 0) (u := 40) rfl
  have h505_ : a484_ 146 2 = a 146 2 := hf484_ 146 2 rfl
  have h506_ := iv_get hv486_ (k := 83) (j := 6) (l := 0) (u := 20) rfl
  have h507_ : a486_ 83 6 = a484_ 83 6 := hf486_ 83 6 rfl
  have h508_ := iv_get hv484_ (k := 83) (j := 6) (l := 0) (u := 20) rfl
  have h509_ : a484_ 83 6 = a 83 6 := hf484_ 83 6 rfl
  have h510_ := iv_get hv486_ (k := 146) (j := 49) (l := 0) (u := 20) rfl
  have h511_ : a486_ 146 49 = a484_ 146 49 := hf486_ 146 49 rfl
  have h512_ := iv_get hv484_ (k := 146) (j := 49) (l := 0) (u := 20) rfl
  have h513_ : a484_ 146 49 = a 146 49 := hf484_ 146 49 rfl
  exact hnext a486_ b hv486_ (WFW_fr (WFW_fr hg0 hf484_ (fun _ => rfl) (fun _ => rfl)) hf486_ (fun _ => rfl) (fun _ => rfl)) (SV_fr (SV_fr hg1 hf484_ (fun _ => rfl) (fun _ => rfl)) hf486_ (fun _ => rfl) (fun _ => rfl)) (OC_fr (OC_fr hg2 hf484_ rfl rfl (fun _ => rfl) (fun _ => rfl) (fun _ => rfl) (fun _ => rfl) (fun _ => rfl)) hf486_ rfl rfl (fun _ => rfl) (fun _ => rfl) (fun _ => rfl) (fun _ => rfl) (fun _ => rfl)) (FO_fr (FO_fr hg3 hf484_ rfl rfl (fun _ => rfl)) hf486_ rfl rfl (fun _ => rfl)) (FW_fr (FW_fr hg4 hf484_ rfl (fun _ => rfl)) hf486_ rfl (fun _ => rfl)) (MEMR_fr (MEMR_fr hg5 hf484_ (fun _ => rfl) (fun _ => rfl) (fun _ => rfl) (fun _ => rfl) (fun _ => rfl) (fun _ => rfl) (fun _ => rfl) (fun _ => rfl) (fun _ => rfl) (fun _ => rfl)) hf486_ (fun _ => rfl) (fun _ => rfl) (fun _ => rfl) (fun _ => rfl) (fun _ => rfl) (fun _ => rfl) (fun _ => rfl) (fun _ => rfl) (fun _ => rfl) (fun _ => rfl)) (show a486_ 0 0 = a486_ 146 0 from by omega) (show a486_ 4 6 = a486_ 146 2 from by omega) (show a486_ 83 6 = a486_ 146 49 from by omega)
theorem lw_op615 (E : jxE) (d : Nat) (hd : Nat.ble 60 (d + 1) = true) (hL : E.1 ≤ 3072) (y3 : Int) (hy0 : 0 ≤ y3) (hy1 : y3 + 6 ≤ E.1) (hnext : ∀ (a b : Nat → Nat → Int) (hv : iv a) (hg0 : WFW a) (hg1 : SV a) (hg2 : OC a) (hg3 : FO a) (hg4 : FW a) (hg5 : MEMR a) (hr0 : a 0 0 = a 146 0) (hr1 : a 4 6 = a 146 2) (hr2 : a 83 6 = a 146 49), jt (jxX E d 305 1189 [some (.inr (.inr (.inl 3000))), some (.inr (.inr (.inl 0))), some (.inr (.inr (.inl 146))), some (.inl y3)] [] (jxSH, a, b)) (fun v _ _ => v = [.inl 1])) (a b : Nat → Nat → Int) (hv : iv a) (hg0 : WFW a) (hg1 : SV a) (hg2 : OC a) (hg3 : FO a) (hg4 : FW a) (hg5 : MEMR a) (hr0 : a 0 0 = a 146 0) (hr1 : a 4 6 = a 146 2) (hr2 : a 83 6 = a 146 49) : jt (jxX E d 305 615 [some (.inr (.inr (.inl 3000))), some (.inr (.inr (.inl 0))), some (.inr (.inr (.inl 146))), some (.inl y3)] [] (jxSH, a, b)) (fun v _ _ => v = [.inl 1]) := by
  refine jt_eq (bq_law_615 E d y3 a b) ?_
  have h514_ := iv_get hv (k := 0) (j := 0) (l := 0) (u := 1999) rfl
  have h515_ := iv_get hv (k := 146) (j := 0) (l := 0) (u := 1999) rfl
  have h516_ := iv_get hv (k := 4) (j := 6) (l := 0) (u := 40) rfl
  have h517_ := iv_get hv (k := 146) (j := 2) (l := 0) (u := 40) rfl
  have h518_ := iv_get hv (k := 83) (j := 6) (l := 0) (u := 20) rfl
  have h519_ := iv_get hv (k := 146) (j := 49) (l := 0) (u := 20) rfl
  refine jt_bif (Nat.ble_eq_true_of_le (by omega)) ?_
  have h520_ : jxw (y3 + 1) = y3 + 1 := jxw_id (by omega) (by omega)
  refine jt_grd (by omega) ?_
  refine jt_bif (Nat.ble_eq_true_of_le (by omega)) ?_
  have h521_ : jxw (y3 + 2) = y3 + 2 := jxw_id (by omega) (by omega)
  refine jt_grd (by omega) ?_
  refine jt_eI (eq_X11_card E d (jd_le hd rfl) (E.2 ((jxw (y3 + 1)).toNat)) (E.2 ((jxw (y3 + 2)).toNat)) a b) ?_
  refine jt_eq (bq_law_630 E d y3 a b) ?_
  refine jt_bif (Nat.ble_eq_true_of_le (by omega)) ?_
  refine jt_grd (by omega) ?_
  refine jt_bif (Nat.ble_eq_true_of_le (by omega)) ?_
  refine jt_grd (by omega) ?_
  refine jt_bI (sp_X12_card E d (jd_le hd rfl) (E.2 ((jxw (y3 + 1)).toNat)) (E.2 ((jxw (y3 + 2)).toNat)) a b hv) (fun r522_ a522_ b522_ h522_ => ?_)
  obtain ⟨rfl, rfl, hq522_0⟩ := h522_
  have h523_ := iv_get hv (k := 146) (j := 9) (l := 0) (u := 300) rfl
  exact hnext a b hv hg0 hg1 hg2 hg3 hg4 hg5 (show a 0 0 = a 146 0 from by omega) (show a 4 6 = a 146 2 from by omega) (show a 83 6 = a 146 49 from by omega)
theorem lw_op648 (E : jxE) (d : Nat) (hd : Nat.ble 60 (d + 1) = true) (hL : E.1 ≤ 3072) (y3 : Int) (hy0 : 0 ≤ y3) (hy1 : y3 + 6 ≤ E.1) (hnext : ∀ (a b : Nat → Nat → Int) (hv : iv a) (hg0 : WFW a) (hg1 : SV a) (hg2 : OC a) (hg3 : FO a) (hg4 : FW a) (hg5 : MEMR a) (hr0 : a 0 0 = a 146 0) (hr1 : a 4 6 = a 146 2) (hr2 : a 83 6 = a 146 49), jt (jxX E d 305 1189 [some (.inr (.inr (.inl 3000))), some (.inr (.inr (.inl 0))), some (.inr (.inr (.inl 146))), some (.inl y3)] [] (jxSH, a, b)) (fun v _ _ => v = [.inl 1])) (a b : Nat → Nat → Int) (hv : iv a) (hg0 : WFW a) (hg1 : SV a) (hg2 : OC a) (hg3 : FO a) (hg4 : FW a) (hg5 : MEMR a) (hr0 : a 0 0 = a 146 0) (hr1 : a 4 6 = a 146 2) (hr2 : a 83 6 = a 146 49) : jt (jxX E d 305 648 [some (.inr (.inr (.inl 3000))), some (.inr (.inr (.inl 0))), some (.inr (.inr (.inl 146))), some (.inl y3)] [] (jxSH, a, b)) (fun v _ _ => v = [.inl 1]) := by
  refine jt_eq (bq_law_648 E d y3 a b) ?_
  have h524_ := iv_get hv (k := 0) (j := 0) (l := 0) (u := 1999) rfl
  have h525_ := iv_get hv (k := 146) (j := 0) (l := 0) (u := 1999) rfl
  have h526_ := iv_get hv (k := 4) (j := 6) (l := 0) (u := 40) rfl
  have h527_ := iv_get hv (k := 146) (j := 2) (l := 0) (u := 40) rfl
  have h528_ := iv_get hv (k := 83) (j := 6) (l := 0) (u := 20) rfl
  have h529_ := iv_get hv (k := 146) (j := 49) (l := 0) (u := 20) rfl
  refine jt_bif (Nat.ble_eq_true_of_le (by omega)) ?_
  have h530_ : jxw (y3 + 1) = y3 + 1 := jxw_id (by omega) (by omega)
  refine jt_grd (by omega) ?_
  refine jt_bif (Nat.ble_eq_true_of_le (by omega)) ?_
  have h531_ : jxw (y3 + 2) = y3 + 2 := jxw_id (by omega) (by omega)
  refine jt_grd (by omega) ?_
  refine jt_bif (Nat.ble_eq_true_of_le (by omega)) ?_
  have h532_ : jxw (y3 + 3) = y3 + 3 := jxw_id (by omega) (by omega)
  refine jt_grd (by omega) ?_
  refine jt_bI (sp_X11_state E d (jd_le hd rfl) (E.2 ((jxw (y3 + 1)).toNat)) (E.2 ((jxw (y3 + 2)).toNat)) (E.2 ((jxw (y3 + 3)).toNat)) a b hv) (fun r533_ a533_ b533_ h533_ => ?_)
  obtain ⟨rfl, rfl, hq533_0⟩ := h533_
  have h534_ := iv_get hv (k := 58) (j := 8) (l := 0) (u := 300) rfl
  refine jt_eq (bq_law_668 E d y3 a b) ?_
  refine jt_bif (Nat.ble_eq_true_of_le (by omega)) ?_
  refine jt_grd (by omega) ?_
  refine jt_bif (Nat.ble_eq_true_of_le (by omega)) ?_
  refine jt_grd (by omega) ?_
  refine jt_bif (Nat.ble_eq_true_of_le (by omega)) ?_
  refine jt_grd (by omega) ?_
  refine jt_bI (sp_X12_state E d (jd_le hd rfl) (E.2 ((jxw (y3 + 1)).toNat)) (E.2 ((jxw (y3 + 2)).toNat)) (E.2 ((jxw (y3 + 3)).toNat)) a b hv) (fun r535_ a535_ b535_ h535_ => ?_)
  obtain ⟨rfl, rfl, hq535_0⟩ := h535_
  have h536_ := iv_get hv (k := 146) (j := 9) (l := 0) (u := 300) rfl
  refine jt_eq (bq_law_688 E d y3 a b) ?_
  exact hnext a b hv hg0 hg1 hg2 hg3 hg4 hg5 (show a 0 0 = a 146 0 from by omega) (show a 4 6 = a 146 2 from by omega) (show a 83 6 = a 146 49 from by omega)
theorem lw_op691 (E : jxE) (d : Nat) (hd : Nat.ble 60 (d + 1) = true) (hL : E.1 ≤ 3072) (y3 : Int) (hy0 : 0 ≤ y3) (hy1 : y3 + 6 ≤ E.1) (hnext : ∀ (a b : Nat → Nat → Int) (hv : iv a) (hg0 : WFW a) (hg1 : SV a) (hg2 : OC a) (hg3 : FO a) (hg4 : FW a) (hg5 : MEMR a) (hr0 : a 0 0 = a 146 0) (hr1 : a 4 6 = a 146 2) (hr2 : a 83 6 = a 146 49), jt (jxX E d 305 1189 [some (.inr (.inr (.inl 3000))), some (.inr (.inr (.inl 0))), some (.inr (.inr (.inl 146))), some (.inl y3)] [] (jxSH, a, b)) (fun v _ _ => v = [.inl 1])) (a b : Nat → Nat → Int) (hv : iv a) (hg0 : WFW a) (hg1 : SV a) (hg2 : OC a) (hg3 : FO a) (hg4 : FW a) (hg5 : MEMR a) (hr0 : a 0 0 = a 146 0) (hr1 : a 4 6 = a 146 2) (hr2 : a 83 6 = a 146 49) : jt (jxX E d 305 691 [some (.inr (.inr (.inl 3000))), some (.inr (.inr (.inl 0))), some (.inr (.inr (.inl 146))), some (.inl y3)] [] (jxSH, a, b)) (fun v _ _ => v = [.inl 1]) := by
  refine jt_eq (bq_law_691 E d y3 a b) ?_
  have h537_ := iv_get hv (k := 0) (j := 0) (l := 0) (u := 1999) rfl
  have h538_ := iv_get hv (k := 146) (j := 0) (l := 0) (u := 1999) rfl
  have h539_ := iv_get hv (k := 4) (j := 6) (l := 0) (u := 40) rfl
  have h540_ := iv_get hv (k := 146) (j := 2) (l := 0) (u := 40) rfl
  have h541_ := iv_get hv (k := 83) (j := 6) (l := 0) (u := 20) rfl
  have h542_ := iv_get hv (k := 146) (j := 49) (l := 0) (u := 20) rfl
  refine jt_bif (Nat.ble_eq_true_of_le (by omega)) ?_
  have h543_ : jxw (y3 + 1) = y3 + 1 := jxw_id (by omega) (by omega)
  refine jt_grd (by omega) ?_
  refine jt_bif (Nat.ble_eq_true_of_le (by omega)) ?_
  have h544_ : jxw (y3 + 2) = y3 + 2 := jxw_id (by omega) (by omega)
  refine jt_grd (by omega) ?_
  refine jt_bI (sp_X11_about E d (jd_le hd rfl) (E.2 ((jxw (y3 + 1)).toNat)) (E.2 ((jxw (y3 + 2)).toNat)) a b hv) (fun r545_ a545_ b545_ h545_ => ?_)
  obtain ⟨hv545_, hf545_, rfl, hq545_0⟩ := h545_
  refine jt_eq (bq_law_706 E d y3 a545_ b) ?_
  refine jt_bif (Nat.ble_eq_true_of_le (by omega)) ?_
  refine jt_grd (by omega) ?_
  refine jt_bif (Nat.ble_eq_true_of_le (by omega)) ?_
  refine jt_grd (by omega) ?_
  refine jt_bI (sp_X12_about E d (jd_le hd rfl) (E.2 ((jxw (y3 + 1)).toNat)) (E.2 ((jxw (y3 + 2)).toNat)) a545_ b hv545_) (fun r546_ a546_ b546_ h546_ => ?_)
  obtain ⟨rfl, rfl, hq546_0⟩ := h546_
  have h547_ := iv_get hv545_ (k := 146) (j := 2) (l := 0) (u := 40) rfl
  have h548_ : a545_ 146 2 = a 146 2 := hf545_ 146 2 rfl
  have h549_ := iv_get hv545_ (k := 0) (j := 0) (l := 0) (u := 1999) rfl
  have h550_ : a545_ 0 0 = a 0 0 := hf545_ 0 0 rfl
  have h551_ := iv_get hv545_ (k := 146) (j := 0) (l := 0) (u := 1999) rfl
  have h552_ : a545_ 146 0 = a 146 0 := hf545_ 146 0 rfl
  have h553_ := iv_get hv545_ (k := 4) (j := 6) (l := 0) (u := 40) rfl
  have h554_ : a545_ 4 6 = a 4 6 := hf545_ 4 6 rfl
  have h555_ := iv_get hv545_ (k := 83) (j := 6) (l := 0) (u := 20) rfl
  have h556_ : a545_ 83 6 = a 83 6 := hf545_ 83 6 rfl
  have h557_ := iv_get hv545_ (k := 146) (j := 49) (l := 0) (u := 20) rfl
  have h558_ : a545_ 146 49 = a 146 49 := hf545_ 146 49 rfl
  exact hnext a545_ b hv545_ (WFW_fr hg0 hf545_ (fun _ => rfl) (fun _ => rfl)) (SV_fr hg1 hf545_ (fun _ => rfl) (fun _ => rfl)) (OC_fr hg2 hf545_ rfl rfl (fun _ => rfl) (fun _ => rfl) (fun _ => rfl) (fun _ => rfl) (fun _ => rfl)) (FO_fr hg3 hf545_ rfl rfl (fun _ => rfl)) (FW_fr hg4 hf545_ rfl (fun _ => rfl)) (MEMR_fr hg5 hf545_ (fun _ => rfl) (fun _ => rfl) (fun _ => rfl) (fun _ => rfl) (fun _ => rfl) (fun _ => rfl) (fun _ => rfl) (fun _ => rfl) (fun _ => rfl) (fun _ => rfl)) (show a545_ 0 0 = a545_ 146 0 from by omega) (show a545_ 4 6 = a545_ 146 2 from by omega) (show a545_ 83 6 = a545_ 146 49 from by omega)
theorem lw_op724 (E : jxE) (d : Nat) (hd : Nat.ble 60 (d + 1) = true) (hL : E.1 ≤ 3072) (y3 : Int) (hy0 : 0 ≤ y3) (hy1 : y3 + 6 ≤ E.1) (hnext : ∀ (a b : Nat → Nat → Int) (hv : iv a) (hg0 : WFW a) (hg1 : SV a) (hg2 : OC a) (hg3 : FO a) (hg4 : FW a) (hg5 : MEMR a) (hr0 : a 0 0 = a 146 0) (hr1 : a 4 6 = a 146 2) (hr2 : a 83 6 = a 146 49), jt (jxX E d 305 1189 [some (.inr (.inr (.inl 3000))), some (.inr (.inr (.inl 0))), some (.inr (.inr (.inl 146))), some (.inl y3)] [] (jxSH, a, b)) (fun v _ _ => v = [.inl 1])) (a b : Nat → Nat → Int) (hv : iv a) (hg0 : WFW a) (hg1 : SV a) (hg2 : OC a) (hg3 : FO a) (hg4 : FW a) (hg5 : MEMR a) (hr0 : a 0 0 = a 146 0) (hr1 : a 4 6 = a 146 2) (hr2 : a 83 6 = a 146 49) : jt (jxX E d 305 724 [some (.inr (.inr (.inl 3000))), some (.inr (.inr (.inl 0))), some (.inr (.inr (.inl 146))), some (.inl y3)] [] (jxSH, a, b)) (fun v _ _ => v = [.inl 1]) := by
  refine jt_eq (bq_law_724 E d y3 a b) ?_
  have h559_ := iv_get hv (k := 0) (j := 0) (l := 0) (u := 1999) rfl
  have h560_ := iv_get hv (k := 146) (j := 0) (l := 0) (u := 1999) rfl
  have h561_ := iv_get hv (k := 4) (j := 6) (l := 0) (u := 40) rfl
  have h562_ := iv_get hv (k := 146) (j := 2) (l := 0) (u := 40) rfl
  have h563_ := iv_get hv (k := 83) (j := 6) (l := 0) (u := 20) rfl
  have h564_ := iv_get hv (k := 146) (j := 49) (l := 0) (u := 20) rfl
  refine jt_bif (Nat.ble_eq_true_of_le (by omega)) ?_
  have h565_ : jxw (y3 + 1) = y3 + 1 := jxw_id (by omega) (by omega)
  refine jt_grd (by omega) ?_
  refine jt_bI (sp_X11_album E d (jd_le hd rfl) (E.2 ((jxw (y3 + 1)).toNat)) a b hv) (fun r566_ a566_ b566_ h566_ => ?_)
  obtain ⟨rfl, rfl, hq566_0⟩ := h566_
  refine jt_eq (bq_law_734 E d y3 a b) ?_
  refine jt_bif (Nat.ble_eq_true_of_le (by omega)) ?_
  refine jt_grd (by omega) ?_
  refine jt_bI (sp_X12_album E d (jd_le hd rfl) (E.2 ((jxw (y3 + 1)).toNat)) a b hv) (fun r567_ a567_ b567_ h567_ => ?_)
  obtain ⟨rfl, rfl, hq567_0⟩ := h567_
  exact hnext a b hv hg0 hg1 hg2 hg3 hg4 hg5 (show a 0 0 = a 146 0 from by omega) (show a 4 6 = a 146 2 from by omega) (show a 83 6 = a 146 49 from by omega)
theorem lw_op747 (E : jxE) (d : Nat) (hd : Nat.ble 60 (d + 1) = true) (hL : E.1 ≤ 3072) (y3 : Int) (hy0 : 0 ≤ y3) (hy1 : y3 + 6 ≤ E.1) (hnext : ∀ (a b : Nat → Nat → Int) (hv : iv a) (hg0 : WFW a) (hg1 : SV a) (hg2 : OC a) (hg3 : FO a) (hg4 : FW a) (hg5 : MEMR a) (hr0 : a 0 0 = a 146 0) (hr1 : a 4 6 = a 146 2) (hr2 : a 83 6 = a 146 49), jt (jxX E d 305 1189 [some (.inr (.inr (.inl 3000))), some (.inr (.inr (.inl 0))), some (.inr (.inr (.inl 146))), some (.inl y3)] [] (jxSH, a, b)) (fun v _ _ => v = [.inl 1])) (a b : Nat → Nat → Int) (hv : iv a) (hg0 : WFW a) (hg1 : SV a) (hg2 : OC a) (hg3 : FO a) (hg4 : FW a) (hg5 : MEMR a) (hr0 : a 0 0 = a 146 0) (hr1 : a 4 6 = a 146 2) (hr2 : a 83 6 = a 146 49) : jt (jxX E d 305 747 [some (.inr (.inr (.inl 3000))), some (.inr (.inr (.inl 0))), some (.inr (.inr (.inl 146))), some (.inl y3)] [] (jxSH, a, b)) (fun v _ _ => v = [.inl 1]) := by
  refine jt_eq (bq_law_747 E d y3 a b) ?_
  have h568_ := iv_get hv (k := 0) (j := 0) (l := 0) (u := 1999) rfl
  have h569_ := iv_get hv (k := 146) (j := 0) (l := 0) (u := 1999) rfl
  have h570_ := iv_get hv (k := 4) (j := 6) (l := 0) (u := 40) rfl
  have h571_ := iv_get hv (k := 146) (j := 2) (l := 0) (u := 40) rfl
  have h572_ := iv_get hv (k := 83) (j := 6) (l := 0) (u := 20) rfl
  have h573_ := iv_get hv (k := 146) (j := 49) (l := 0) (u := 20) rfl
  refine jt_bif (Nat.ble_eq_true_of_le (by omega)) ?_
  have h574_ : jxw (y3 + 1) = y3 + 1 := jxw_id (by omega) (by omega)
  refine jt_grd (by omega) ?_
  refine jt_bif (Nat.ble_eq_true_of_le (by omega)) ?_
  have h575_ : jxw (y3 + 2) = y3 + 2 := jxw_id (by omega) (by omega)
  refine jt_grd (by omega) ?_
  refine jt_bif (Nat.ble_eq_true_of_le (by omega)) ?_
  have h576_ : jxw (y3 + 3) = y3 + 3 := jxw_id (by omega) (by omega)
  refine jt_grd (by omega) ?_
  refine jt_bI (sp_X11_span E d (jd_le hd rfl) (E.2 ((jxw (y3 + 1)).toNat)) (E.2 ((jxw (y3 + 2)).toNat)) (E.2 ((jxw (y3 + 3)).toNat)) a b hv) (fun r577_ a577_ b577_ h577_ => ?_)
  obtain ⟨hv577_, hf577_, rfl, hq577_0⟩ := h577_
  have h578_ := iv_get hv (k := 58) (j := 12) (l := 0) (u := 600) rfl
  refine jt_eq (bq_law_767 E d y3 a577_ b) ?_
  refine jt_bif (Nat.ble_eq_true_of_le (by omega)) ?_
  refine jt_grd (by omega) ?_
  refine jt_bif (Nat.ble_eq_true_of_le (by omega)) ?_
  refine jt_grd (by omega) ?_
  refine jt_bif (Nat.ble_eq_true_of_le (by omega)) ?_
  refine jt_grd (by omega) ?_
  refine jt_bI (sp_X12_span E d (jd_le hd rfl) (E.2 ((jxw (y3 + 1)).toNat)) (E.2 ((jxw (y3 + 2)).toNat)) (E.2 ((jxw (y3 + 3)).toNat)) a577_ b hv577_) (fun r579_ a579_ b579_ h579_ => ?_)
  obtain ⟨hv579_, hf579_, rfl, hq579_0⟩ := h579_
  have h580_ := iv_get hv577_ (k := 146) (j := 17) (l := 0) (u := 600) rfl
  have h581_ : a577_ 146 17 = a 146 17 := hf577_ 146 17 rfl
  have h582_ := iv_get hv (k := 146) (j := 17) (l := 0) (u := 600) rfl
  refine jt_eq (bq_law_787 E d y3 a579_ b) ?_
  have h583_ := iv_get hv579_ (k := 0) (j := 0) (l := 0) (u := 1999) rfl
  have h584_ : a579_ 0 0 = a577_ 0 0 := hf579_ 0 0 rfl
  have h585_ := iv_get hv577_ (k := 0) (j := 0) (l := 0) (u := 1999) rfl
  have h586_ : a577_ 0 0 = a 0 0 := hf577_ 0 0 rfl
  have h587_ := iv_get hv579_ (k := 146) (j := 0) (l := 0) (u := 1999) rfl
  have h588_ : a579_ 146 0 = a577_ 146 0 := hf579_ 146 0 rfl
  have h589_ := iv_get hv577_ (k := 146) (j := 0) (l := 0) (u := 1999) rfl
  have h590_ : a577_ 146 0 = a 146 0 := hf577_ 146 0 rfl
  have h591_ := iv_get hv579_ (k := 4) (j := 6) (l := 0) (u := 40) rfl
  have h592_ : a579_ 4 6 = a577_ 4 6 := hf579_ 4 6 rfl
  have h593_ := iv_get hv577_ (k := 4) (j := 6) (l := 0) (u := 40) rfl
  have h594_ : a577_ 4 6 = a 4 6 := hf577_ 4 6 rfl
  have h595_ := iv_get hv579_ (k := 146) (j := 2) (l := 0) (u := 40) rfl
  have h596_ : a579_ 146 2 = a577_ 146 2 := hf579_ 146 2 rfl
  have h597_ := iv_get hv577_ (k := 146) (j := 2) (l := 0) (u := 40) rfl
  have h598_ : a577_ 146 2 = a 146 2 := hf577_ 146 2 rfl
  have h599_ := iv_get hv579_ (k := 83) (j := 6) (l := 0) (u := 20) rfl
  have h600_ : a579_ 83 6 = a577_ 83 6 := hf579_ 83 6 rfl
  have h601_ := iv_get hv577_ (k := 83) (j := 6) (l := 0) (u := 20) rfl
  have h602_ : a577_ 83 6 = a 83 6 := hf577_ 83 6 rfl
  have h603_ := iv_get hv579_ (k := 146) (j := 49) (l := 0) (u := 20) rfl
  have h604_ : a579_ 146 49 = a577_ 146 49 := hf579_ 146 49 rfl
  have h605_ := iv_get hv577_ (k := 146) (j := 49) (l := 0) (u := 20) rfl
  have h606_ : a577_ 146 49 = a 146 49 := hf577_ 146 49 rfl
  exact hnext a579_ b hv579_ (WFW_fr (WFW_fr hg0 hf577_ (fun _ => rfl) (fun _ => rfl)) hf579_ (fun _ => rfl) (fun _ => rfl)) (SV_fr (SV_fr hg1 hf577_ (fun _ => rfl) (fun _ => rfl)) hf579_ (fun _ => rfl) (fun _ => rfl)) (OC_fr (OC_fr hg2 hf577_ rfl rfl (fun _ => rfl) (fun _ => rfl) (fun _ => rfl) (fun _ => rfl) (fun _ => rfl)) hf579_ rfl rfl (fun _ => rfl) (fun _ => rfl) (fun _ => rfl) (fun _ => rfl) (fun _ => rfl)) (FO_fr (FO_fr hg3 hf577_ rfl rfl (fun _ => rfl)) hf579_ rfl rfl (fun _ => rfl)) (FW_fr (FW_fr hg4 hf577_ rfl (fun _ => rfl)) hf579_ rfl (fun _ => rfl)) (MEMR_fr (MEMR_fr hg5 hf577_ (fun _ => rfl) (fun _ => rfl) (fun _ => rfl) (fun _ => rfl) (fun _ => rfl) (fun _ => rfl) (fun _ => rfl) (fun _ => rfl) (fun _ => rfl) (fun _ => rfl)) hf579_ (fun _ => rfl) (fun _ => rfl) (fun _ => rfl) (fun _ => rfl) (fun _ => rfl) (fun _ => rfl) (fun _ => rfl) (fun _ => rfl) (fun _ => rfl) (fun _ => rfl)) (show a579_ 0 0 = a579_ 146 0 from by omega) (show a579_ 4 6 = a579_ 146 2 from by omega) (show a579_ 83 6 = a579_ 146 49 from by omega)
theorem lw_op790 (E : jxE) (d : Nat) (hd : Nat.ble 60 (d + 1) = true) (hL : E.1 ≤ 3072) (y3 : Int) (hy0 : 0 ≤ y3) (hy1 : y3 + 6 ≤ E.1) (hnext : ∀ (a b : Nat → Nat → Int) (hv : iv a) (hg0 : WFW a) (hg1 : SV a) (hg2 : OC a) (hg3 : FO a) (hg4 : FW a) (hg5 : MEMR a) (hr0 : a 0 0 = a 146 0) (hr1 : a 4 6 = a 146 2) (hr2 : a 83 6 = a 146 49), jt (jxX E d 305 1189 [some (.inr (.inr (.inl 3000))), some (.inr (.inr (.inl 0))), some (.inr (.inr (.inl 146))), some (.inl y3)] [] (jxSH, a, b)) (fun v _ _ => v = [.inl 1])) (a b : Nat → Nat → Int) (hv : iv a) (hg0 : WFW a) (hg1 : SV a) (hg2 : OC a) (hg3 : FO a) (hg4 : FW a) (hg5 : MEMR a) (hr0 : a 0 0 = a 146 0) (hr1 : a 4 6 = a 146 2) (hr2 : a 83 6 = a 146 49) : jt (jxX E d 305 790 [some (.inr (.inr (.inl 3000))), some (.inr (.inr (.inl 0))), some (.inr (.inr (.inl 146))), some (.inl y3)] [] (jxSH, a, b)) (fun v _ _ => v = [.inl 1]) := by
  refine jt_eq (bq_law_790 E d y3 a b) ?_
  have h607_ := iv_get hv (k := 0) (j := 0) (l := 0) (u := 1999) rfl
  have h608_ := iv_get hv (k := 146) (j := 0) (l := 0) (u := 1999) rfl
  have h609_ := iv_get hv (k := 4) (j := 6) (l := 0) (u := 40) rfl
  have h610_ := iv_get hv (k := 146) (j := 2) (l := 0) (u := 40) rfl
  have h611_ := iv_get hv (k := 83) (j := 6) (l := 0) (u := 20) rfl
  have h612_ := iv_get hv (k := 146) (j := 49) (l := 0) (u := 20) rfl
  refine jt_bif (Nat.ble_eq_true_of_le (by omega)) ?_
  have h613_ : jxw (y3 + 1) = y3 + 1 := jxw_id (by omega) (by omega)
  refine jt_grd (by omega) ?_
  refine jt_bif (Nat.ble_eq_true_of_le (by omega)) ?_
  have h614_ : jxw (y3 + 2) = y3 + 2 := jxw_id (by omega) (by omega)
  refine jt_grd (by omega) ?_
  refine jt_bif (Nat.ble_eq_true_of_le (by omega)) ?_
  have h615_ : jxw (y3 + 3) = y3 + 3 := jxw_id (by omega) (by omega)
  refine jt_grd (by omega) ?_
  refine jt_bI (sp_X11_offer E d (jd_le hd rfl) (E.2 ((jxw (y3 + 1)).toNat)) (E.2 ((jxw (y3 + 2)).toNat)) (E.2 ((jxw (y3 + 3)).toNat)) a b hv) (fun r616_ a616_ b616_ h616_ => ?_)
  obtain ⟨hv616_, hf616_, rfl, hq616_0, hq616_1⟩ := h616_
  have h617_ := iv_get hv616_ (k := 83) (j := 6) (l := 0) (u := 20) rfl
  have hth616 := (hg5 ((E.2 ((jxw (y3 + 1)).toNat)).toNat)).2.2.2.2
  refine jt_bif (Nat.ble_eq_true_of_le (by omega)) ?_
  refine jt_grd (by omega) ?_
  refine jt_bif (Nat.ble_eq_true_of_le (by omega)) ?_
  refine jt_grd (by omega) ?_
  refine jt_bif (Nat.ble_eq_true_of_le (by omega)) ?_
  refine jt_grd (by omega) ?_
  refine jt_bI (sp_X12_offer E d (jd_le hd rfl) (E.2 ((jxw (y3 + 1)).toNat)) (E.2 ((jxw (y3 + 2)).toNat)) (E.2 ((jxw (y3 + 3)).toNat)) a616_ b hv616_ (OC_fr hg2 hf616_ rfl rfl (fun _ => rfl) (fun _ => rfl) (fun _ => rfl) (fun _ => rfl) (fun _ => rfl)) (FO_fr hg3 hf616_ rfl rfl (fun _ => rfl)) (FW_fr hg4 hf616_ rfl (fun _ => rfl))) (fun r618_ a618_ b618_ h618_ => ?_)
  obtain ⟨hv618_, hf618_, rfl, hq618_0, hq618_1, hq618_2, hq618_3, hq618_4⟩ := h618_
  have h619_ := iv_get hv616_ (k := 146) (j := 2) (l := 0) (u := 40) rfl
  have h620_ : a616_ 146 2 = a 146 2 := hf616_ 146 2 rfl
  have h621_ := iv_get hv616_ (k := 152) (j := (E.2 ((jxw (y3 + 1)).toNat)).toNat) (l := 0) (u := 1) rfl
  have h622_ : a616_ 152 ((E.2 ((jxw (y3 + 1)).toNat)).toNat) = a 152 ((E.2 ((jxw (y3 + 1)).toNat)).toNat) := hf616_ 152 ((E.2 ((jxw (y3 + 1)).toNat)).toNat) rfl
  have h623_ := iv_get hv (k := 152) (j := (E.2 ((jxw (y3 + 1)).toNat)).toNat) (l := 0) (u := 1) rfl
  have h624_ := iv_get hv616_ (k := 146) (j := 49) (l := 0) (u := 20) rfl
  have h625_ : a616_ 146 49 = a 146 49 := hf616_ 146 49 rfl
  have h626_ := iv_get hv618_ (k := 146) (j := 49) (l := 0) (u := 20) rfl
  refine jt_ite (fun c627_ => ?_) (fun c627_ => ?_)
  ·
    have h628_ := iv_get hv618_ (k := 0) (j := 0) (l := 0) (u := 1999) rfl
    have h629_ : a618_ 0 0 = a616_ 0 0 := hf618_ 0 0 rfl
    have h630_ := iv_get hv616_ (k := 0) (j := 0) (l := 0) (u := 1999) rfl
    have h631_ : a616_ 0 0 = a 0 0 := hf616_ 0 0 rfl
    have h632_ := iv_get hv618_ (k := 146) (j := 0) (l := 0) (u := 1999) rfl
    have h633_ : a618_ 146 0 = a616_ 146 0 := hf618_ 146 0 rfl
    have h634_ := iv_get hv616_ (k := 146) (j := 0) (l := 0) (u := 1999) rfl
    have h635_ : a616_ 146 0 = a 146 0 := hf616_ 146 0 rfl
    have h636_ := iv_get hv618_ (k := 4) (j := 6) (l := 0) (u := 40) rfl
    have h637_ : a618_ 4 6 = a616_ 4 6 := hf618_ 4 6 rfl
    have h638_ := iv_get hv616_ (k := 4) (j := 6) (l := 0) (u := 40) rfl
    have h639_ : a616_ 4 6 = a 4 6 := hf616_ 4 6 rfl
    have h640_ := iv_get hv618_ (k := 146) (j := 2) (l := 0) (u := 40) rfl
    have h641_ : a618_ 146 2 = a616_ 146 2 := hf618_ 146 2 rfl
    have h642_ := iv_get hv618_ (k := 83) (j := 6) (l := 0) (u := 20) rfl
    have h643_ : a618_ 83 6 = a616_ 83 6 := hf618_ 83 6 rfl
    exact hnext a618_ b hv618_ (WFW_fr (WFW_fr hg0 hf616_ (fun _ => rfl) (fun _ => rfl)) hf618_ (fun _ => rfl) (fun _ => rfl)) (SV_fr (SV_fr hg1 hf616_ (fun _ => rfl) (fun _ => rfl)) hf618_ (fun _ => rfl) (fun _ => rfl)) hq618_0 hq618_1 hq618_2 (MEMR_fr (MEMR_fr hg5 hf616_ (fun _ => rfl) (fun _ => rfl) (fun _ => rfl) (fun _ => rfl) (fun _ => rfl) (fun _ => rfl) (fun _ => rfl) (fun _ => rfl) (fun _ => rfl) (fun _ => rfl)) hf618_ (fun _ => rfl) (fun _ => rfl) (fun _ => rfl) (fun _ => rfl) (fun _ => rfl) (fun _ => rfl) (fun _ => rfl) (fun _ => rfl) (fun _ => rfl) (fun _ => rfl)) (show a618_ 0 0 = a618_ 146 0 from by omega) (show a618_ 4 6 = a618_ 146 2 from by omega) (show a618_ 83 6 = a618_ 146 49 from by omega)
  ·
    exact absurd (by omega : False) id
theorem lw_op833 (E : jxE) (d : Nat) (hd : Nat.ble 60 (d + 1) = true) (hL : E.1 ≤ 3072) (y3 : Int) (hy0 : 0 ≤ y3) (hy1 : y3 + 6 ≤ E.1) (hnext : ∀ (a b : Nat → Nat → Int) (hv : iv a) (hg0 : WFW a) (hg1 : SV a) (hg2 : OC a) (hg3 : FO a) (hg4 : FW a) (hg5 : MEMR a) (hr0 : a 0 0 = a 146 0) (hr1 : a 4 6 = a 146 2) (hr2 : a 83 6 = a 146 49), jt (jxX E d 305 1189 [some (.inr (.inr (.inl 3000))), some (.inr (.inr (.inl 0))), some (.inr (.inr (.inl 146))), some (.inl y3)] [] (jxSH, a, b)) (fun v _ _ => v = [.inl 1])) (a b : Nat → Nat → Int) (hv : iv a) (hg0 : WFW a) (hg1 : SV a) (hg2 : OC a) (hg3 : FO a) (hg4 : FW a) (hg5 : MEMR a) (hr0 : a 0 0 = a 146 0) (hr1 : a 4 6 = a 146 2) (hr2 : a 83 6 = a 146 49) : jt (jxX E d 305 833 [some (.inr (.inr (.inl 3000))), some (.inr (.inr (.inl 0))), some (.inr (.inr (.inl 146))), some (.inl y3)] [] (jxSH, a, b)) (fun v _ _ => v = [.inl 1]) := by
  refine jt_eq (bq_law_833 E d y3 a b) ?_
  have h644_ := iv_get hv (k := 0) (j := 0) (l := 0) (u := 1999) rfl
  have h645_ := iv_get hv (k := 146) (j := 0) (l := 0) (u := 1999) rfl
  have h646_ := iv_get hv (k := 4) (j := 6) (l := 0) (u := 40) rfl
  have h647_ := iv_get hv (k := 146) (j := 2) (l := 0) (u := 40) rfl
  have h648_ := iv_get hv (k := 83) (j := 6) (l := 0) (u := 20) rfl
  have h649_ := iv_get hv (k := 146) (j := 49) (l := 0) (u := 20) rfl
  refine jt_bif (Nat.ble_eq_true_of_le (by omega)) ?_
  have h650_ : jxw (y3 + 1) = y3 + 1 := jxw_id (by omega) (by omega)
  refine jt_grd (by omega) ?_
  refine jt_bI (sp_X11_away E d (jd_le hd rfl) (E.2 ((jxw (y3 + 1)).toNat)) a b hv) (fun r651_ a651_ b651_ h651_ => ?_)
  obtain ⟨hv651_, hf651_, rfl, hq651_0, hq651_1⟩ := h651_
  refine jt_eq (bq_law_843 E d y3 a651_ b) ?_
  refine jt_bif (Nat.ble_eq_true_of_le (by omega)) ?_
  refine jt_grd (by omega) ?_
  refine jt_bI (sp_X12_away E d (jd_le hd rfl) (E.2 ((jxw (y3 + 1)).toNat)) a651_ b hv651_ (OC_fr hg2 hf651_ rfl rfl (fun _ => rfl) (fun _ => rfl) (fun _ => rfl) (fun _ => rfl) (fun _ => rfl))) (fun r652_ a652_ b652_ h652_ => ?_)
  obtain ⟨hv652_, hf652_, rfl, hq652_0, hq652_1, hq652_2⟩ := h652_
  have h653_ := iv_get hv651_ (k := 146) (j := 49) (l := 0) (u := 20) rfl
  have h654_ : a651_ 146 49 = a 146 49 := hf651_ 146 49 rfl
  have h655_ := iv_get hv652_ (k := 0) (j := 0) (l := 0) (u := 1999) rfl
  have h656_ : a652_ 0 0 = a651_ 0 0 := hf652_ 0 0 rfl
  have h657_ := iv_get hv651_ (k := 0) (j := 0) (l := 0) (u := 1999) rfl
  have h658_ : a651_ 0 0 = a 0 0 := hf651_ 0 0 rfl
  have h659_ := iv_get hv652_ (k := 146) (j := 0) (l := 0) (u := 1999) rfl
  have h660_ : a652_ 146 0 = a651_ 146 0 := hf652_ 146 0 rfl
  have h661_ := iv_get hv651_ (k := 146) (j := 0) (l := 0) (u := 1999) rfl
  have h662_ : a651_ 146 0 = a 146 0 := hf651_ 146 0 rfl
  have h663_ := iv_get hv652_ (k := 4) (j := 6) (l := 0) (u := 40) rfl
  have h664_ : a652_ 4 6 = a651_ 4 6 := hf652_ 4 6 rfl
  have h665_ := iv_get hv651_ (k := 4) (j := 6) (l := 0) (u := 40) rfl
  have h666_ : a651_ 4 6 = a 4 6 := hf651_ 4 6 rfl
  have h667_ := iv_get hv652_ (k := 146) (j := 2) (l := 0) (u := 40) rfl
  have h668_ : a652_ 146 2 = a651_ 146 2 := hf652_ 146 2 rfl
  have h669_ := iv_get hv651_ (k := 146) (j := 2) (l := 0) (u := 40) rfl
  have h670_ : a651_ 146 2 = a 146 2 := hf651_ 146 2 rfl
  have h671_ := iv_get hv652_ (k := 83) (j := 6) (l := 0) (u := 20) rfl
  have h672_ : a652_ 83 6 = a651_ 83 6 := hf652_ 83 6 rfl
  have h673_ := iv_get hv651_ (k := 83) (j := 6) (l := 0) (u := 20) rfl
  have h674_ : a651_ 83 6 = a 83 6 := hf651_ 83 6 rfl
  have h675_ := iv_get hv652_ (k := 146) (j := 49) (l := 0) (u := 20) rfl
  have h676_ : a652_ 146 49 = a651_ 146 49 := hf652_ 146 49 rfl
  exact hnext a652_ b hv652_ (WFW_fr (WFW_fr hg0 hf651_ (fun _ => rfl) (fun _ => rfl)) hf652_ (fun _ => rfl) (fun _ => rfl)) (SV_fr (SV_fr hg1 hf651_ (fun _ => rfl) (fun _ => rfl)) hf652_ (fun _ => rfl) (fun _ => rfl)) hq652_1 (FO_fr (FO_fr hg3 hf651_ rfl rfl (fun _ => rfl)) hf652_ rfl rfl (fun _ => rfl)) (FW_fr (FW_fr hg4 hf651_ rfl (fun _ => rfl)) hf652_ rfl (fun _ => rfl)) (MEMR_fr (MEMR_fr hg5 hf651_ (fun _ => rfl) (fun _ => rfl) (fun _ => rfl) (fun _ => rfl) (fun _ => rfl) (fun _ => rfl) (fun _ => rfl) (fun _ => rfl) (fun _ => rfl) (fun _ => rfl)) hf652_ (fun _ => rfl) (fun _ => rfl) (fun _ => rfl) (fun _ => rfl) (fun _ => rfl) (fun _ => rfl) (fun _ => rfl) (fun _ => rfl) (fun _ => rfl) (fun _ => rfl)) (show a652_ 0 0 = a652_ 146 0 from by omega) (show a652_ 4 6 = a652_ 146 2 from by omega) (show a652_ 83 6 = a652_ 146 49 from by omega)
theorem lw_op856 (E : jxE) (d : Nat) (hd : Nat.ble 60 (d + 1) = true) (hL : E.1 ≤ 3072) (y3 : Int) (hy0 : 0 ≤ y3) (hy1 : y3 + 6 ≤ E.1) (hnext : ∀ (a b : Nat → Nat → Int) (hv : iv a) (hg0 : WFW a) (hg1 : SV a) (hg2 : OC a) (hg3 : FO a) (hg4 : FW a) (hg5 : MEMR a) (hr0 : a 0 0 = a 146 0) (hr1 : a 4 6 = a 146 2) (hr2 : a 83 6 = a 146 49), jt (jxX E d 305 1189 [some (.inr (.inr (.inl 3000))), some (.inr (.inr (.inl 0))), some (.inr (.inr (.inl 146))), some (.inl y3)] [] (jxSH, a, b)) (fun v _ _ => v = [.inl 1])) (a b : Nat → Nat → Int) (hv : iv a) (hg0 : WFW a) (hg1 : SV a) (hg2 : OC a) (hg3 : FO a) (hg4 : FW a) (hg5 : MEMR a) (hr0 : a 0 0 = a 146 0) (hr1 : a 4 6 = a 146 2) (hr2 : a 83 6 = a 146 49) : jt (jxX E d 305 856 [some (.inr (.inr (.inl 3000))), some (.inr (.inr (.inl 0))), some (.inr (.inr (.inl 146))), some (.inl y3)] [] (jxSH, a, b)) (fun v _ _ => v = [.inl 1]) := by
  refine jt_eq (bq_law_856 E d y3 a b) ?_
  have h677_ := iv_get hv (k := 0) (j := 0) (l := 0) (u := 1999) rfl
  have h678_ := iv_get hv (k := 146) (j := 0) (l := 0) (u := 1999) rfl
  have h679_ := iv_get hv (k := 4) (j := 6) (l := 0) (u := 40) rfl
  have h680_ := iv_get hv (k := 146) (j := 2) (l := 0) (u := 40) rfl
  have h681_ := iv_get hv (k := 83) (j := 6) (l := 0) (u := 20) rfl
  have h682_ := iv_get hv (k := 146) (j := 49) (l := 0) (u := 20) rfl
  refine jt_bI (sp_X11_rings E d (jd_le hd rfl) a b hv) (fun r683_ a683_ b683_ h683_ => ?_)
  obtain ⟨hv683_, hf683_, hq683_0⟩ := h683_
  refine jt_eq (bq_law_861 E d y3 a683_ b683_) ?_
  refine jt_bI (sp_X12_rings E d (jd_le hd rfl) a683_ b683_ hv683_ (FO_fr hg3 hf683_ rfl rfl (fun _ => rfl)) (FW_fr hg4 hf683_ rfl (fun _ => rfl))) (fun r684_ a684_ b684_ h684_ => ?_)
  obtain ⟨hv684_, hf684_, rfl, hq684_0, hq684_1, hq684_2⟩ := h684_
  have h685_ := iv_get hv683_ (k := 146) (j := 49) (l := 0) (u := 20) rfl
  have h686_ : a683_ 146 49 = a 146 49 := hf683_ 146 49 rfl
  have h687_ := iv_get hv684_ (k := 0) (j := 0) (l := 0) (u := 1999) rfl
  have h688_ : a684_ 0 0 = a683_ 0 0 := hf684_ 0 0 rfl
  have h689_ := iv_get hv683_ (k := 0) (j := 0) (l := 0) (u := 1999) rfl
  have h690_ : a683_ 0 0 = a 0 0 := hf683_ 0 0 rfl
  have h691_ := iv_get hv684_ (k := 146) (j := 0) (l := 0) (u := 1999) rfl
  have h692_ : a684_ 146 0 = a683_ 146 0 := hf684_ 146 0 rfl
  have h693_ := iv_get hv683_ (k := 146) (j := 0) (l := 0) (u := 1999) rfl
  have h694_ : a683_ 146 0 = a 146 0 := hf683_ 146 0 rfl
  have h695_ := iv_get hv684_ (k := 4) (j := 6) (l := 0) (u := 40) rfl
  have h696_ : a684_ 4 6 = a683_ 4 6 := hf684_ 4 6 rfl
  have h697_ := iv_get hv683_ (k := 4) (j := 6) (l := 0) (u := 40) rfl
  have h698_ : a683_ 4 6 = a 4 6 := hf683_ 4 6 rfl
  have h699_ := iv_get hv684_ (k := 146) (j := 2) (l := 0) (u := 40) rfl
  have h700_ : a684_ 146 2 = a683_ 146 2 := hf684_ 146 2 rfl
  have h701_ := iv_get hv683_ (k := 146) (j := 2) (l := 0) (u := 40) rfl
  have h702_ : a683_ 146 2 = a 146 2 := hf683_ 146 2 rfl
  have h703_ := iv_get hv684_ (k := 83) (j := 6) (l := 0) (u := 20) rfl
  have h704_ : a684_ 83 6 = a683_ 83 6 := hf684_ 83 6 rfl
  have h705_ := iv_get hv683_ (k := 83) (j := 6) (l := 0) (u := 20) rfl
  have h706_ : a683_ 83 6 = a 83 6 := hf683_ 83 6 rfl
  have h707_ := iv_get hv684_ (k := 146) (j := 49) (l := 0) (u := 20) rfl
  have h708_ : a684_ 146 49 = a683_ 146 49 := hf684_ 146 49 rfl
  exact hnext a684_ b683_ hv684_ (WFW_fr (WFW_fr hg0 hf683_ (fun _ => rfl) (fun _ => rfl)) hf684_ (fun _ => rfl) (fun _ => rfl)) (SV_fr (SV_fr hg1 hf683_ (fun _ => rfl) (fun _ => rfl)) hf684_ (fun _ => rfl) (fun _ => rfl)) (OC_fr (OC_fr hg2 hf683_ rfl rfl (fun _ => rfl) (fun _ => rfl) (fun _ => rfl) (fun _ => rfl) (fun _ => rfl)) hf684_ rfl rfl (fun _ => rfl) (fun _ => rfl) (fun _ => rfl) (fun _ => rfl) (fun _ => rfl)) hq684_0 hq684_1 (MEMR_fr (MEMR_fr hg5 hf683_ (fun _ => rfl) (fun _ => rfl) (fun _ => rfl) (fun _ => rfl) (fun _ => rfl) (fun _ => rfl) (fun _ => rfl) (fun _ => rfl) (fun _ => rfl) (fun _ => rfl)) hf684_ (fun _ => rfl) (fun _ => rfl) (fun _ => rfl) (fun _ => rfl) (fun _ => rfl) (fun _ => rfl) (fun _ => rfl) (fun _ => rfl) (fun _ => rfl) (fun _ => rfl)) (show a684_ 0 0 = a684_ 146 0 from by omega) (show a684_ 4 6 = a684_ 146 2 from by omega) (show a684_ 83 6 = a684_ 146 49 from by omega)
theorem lw_op869 (E : jxE) (d : Nat) (hd : Nat.ble 60 (d + 1) = true) (hL : E.1 ≤ 3072) (y3 : Int) (hy0 : 0 ≤ y3) (hy1 : y3 + 6 ≤ E.1) (hnext : ∀ (a b : Nat → Nat → Int) (hv : iv a) (hg0 : WFW a) (hg1 : SV a) (hg2 : OC a) (hg3 : FO a) (hg4 : FW a) (hg5 : MEMR a) (hr0 : a 0 0 = a 146 0) (hr1 : a 4 6 = a 146 2) (hr2 : a 83 6 = a 146 49), jt (jxX E d 305 1189 [some (.inr (.inr (.inl 3000))), some (.inr (.inr (.inl 0))), some (.inr (.inr (.inl 146))), some (.inl y3)] [] (jxSH, a, b)) (fun v _ _ => v = [.inl 1])) (a b : Nat → Nat → Int) (hv : iv a) (hg0 : WFW a) (hg1 : SV a) (hg2 : OC a) (hg3 : FO a) (hg4 : FW a) (hg5 : MEMR a) (hr0 : a 0 0 = a 146 0) (hr1 : a 4 6 = a 146 2) (hr2 : a 83 6 = a 146 49) : jt (jxX E d 305 869 [some (.inr (.inr (.inl 3000))), some (.inr (.inr (.inl 0))), some (.inr (.inr (.inl 146))), some (.inl y3)] [] (jxSH, a, b)) (fun v _ _ => v = [.inl 1]) := by
  refine jt_eq (bq_law_869 E d y3 a b) ?_
  have h709_ := iv_get hv (k := 0) (j := 0) (l := 0) (u := 1999) rfl
  have h710_ := iv_get hv (k := 146) (j := 0) (l := 0) (u := 1999) rfl
  have h711_ := iv_get hv (k := 4) (j := 6) (l := 0) (u := 40) rfl
  have h712_ := iv_get hv (k := 146) (j := 2) (l := 0) (u := 40) rfl
  have h713_ := iv_get hv (k := 83) (j := 6) (l := 0) (u := 20) rfl
  have h714_ := iv_get hv (k := 146) (j := 49) (l := 0) (u := 20) rfl
  refine jt_bif (Nat.ble_eq_true_of_le (by omega)) ?_
  have h715_ : jxw (y3 + 1) = y3 + 1 := jxw_id (by omega) (by omega)
  refine jt_grd (by omega) ?_
  refine jt_bif (Nat.ble_eq_true_of_le (by omega)) ?_
  have h716_ : jxw (y3 + 2) = y3 + 2 := jxw_id (by omega) (by omega)
  refine jt_grd (by omega) ?_
  refine jt_eI (eq_X11_ring E d (jd_le hd rfl) (E.2 ((jxw (y3 + 1)).toNat)) (E.2 ((jxw (y3 + 2)).toNat)) a b) ?_
  refine jt_eq (bq_law_884 E d y3 a b) ?_
  refine jt_bif (Nat.ble_eq_true_of_le (by omega)) ?_
  refine jt_grd (by omega) ?_
  refine jt_bif (Nat.ble_eq_true_of_le (by omega)) ?_
  refine jt_grd (by omega) ?_
  refine jt_eI (eq_X12_ring E d (jd_le hd rfl) (E.2 ((jxw (y3 + 1)).toNat)) (E.2 ((jxw (y3 + 2)).toNat)) a b hv) ?_
  exact hnext a b hv hg0 hg1 hg2 hg3 hg4 hg5 (show a 0 0 = a 146 0 from by omega) (show a 4 6 = a 146 2 from by omega) (show a 83 6 = a 146 49 from by omega)
theorem lw_op902 (E : jxE) (d : Nat) (hd : Nat.ble 60 (d + 1) = true) (hL : E.1 ≤ 3072) (y3 : Int) (hy0 : 0 ≤ y3) (hy1 : y3 + 6 ≤ E.1) (hnext : ∀ (a b : Nat → Nat → Int) (hv : iv a) (hg0 : WFW a) (hg1 : SV a) (hg2 : OC a) (hg3 : FO a) (hg4 : FW a) (hg5 : MEMR a) (hr0 : a 0 0 = a 146 0) (hr1 : a 4 6 = a 146 2) (hr2 : a 83 6 = a 146 49), jt (jxX E d 305 1189 [some (.inr (.inr (.inl 3000))), some (.inr (.inr (.inl 0))), some (.inr (.inr (.inl 146))), some (.inl y3)] [] (jxSH, a, b)) (fun v _ _ => v = [.inl 1])) (a b : Nat → Nat → Int) (hv : iv a) (hg0 : WFW a) (hg1 : SV a) (hg2 : OC a) (hg3 : FO a) (hg4 : FW a) (hg5 : MEMR a) (hr0 : a 0 0 = a 146 0) (hr1 : a 4 6 = a 146 2) (hr2 : a 83 6 = a 146 49) : jt (jxX E d 305 902 [some (.inr (.inr (.inl 3000))), some (.inr (.inr (.inl 0))), some (.inr (.inr (.inl 146))), some (.inl y3)] [] (jxSH, a, b)) (fun v _ _ => v = [.inl 1]) := by
  refine jt_eq (bq_law_902 E d y3 a b) ?_
  have h717_ := iv_get hv (k := 0) (j := 0) (l := 0) (u := 1999) rfl
  have h718_ := iv_get hv (k := 146) (j := 0) (l := 0) (u := 1999) rfl
  have h719_ := iv_get hv (k := 4) (j := 6) (l := 0) (u := 40) rfl
  have h720_ := iv_get hv (k := 146) (j := 2) (l := 0) (u := 40) rfl
  have h721_ := iv_get hv (k := 83) (j := 6) (l := 0) (u := 20) rfl
  have h722_ := iv_get hv (k := 146) (j := 49) (l := 0) (u := 20) rfl
  refine jt_bif (Nat.ble_eq_true_of_le (by omega)) ?_
  have h723_ : jxw (y3 + 1) = y3 + 1 := jxw_id (by omega) (by omega)
  refine jt_grd (by omega) ?_
  refine jt_bI (sp_X11_close E d (jd_le hd rfl) (E.2 ((jxw (y3 + 1)).toNat)) a b hv) (fun r724_ a724_ b724_ h724_ => ?_)
  obtain ⟨hv724_, hf724_, rfl, hq724_0⟩ := h724_
  have h725_ := iv_get hv (k := 90) (j := 12) (l := 0) (u := 6) rfl
  refine jt_eq (bq_law_912 E d y3 a724_ b) ?_
  refine jt_bif (Nat.ble_eq_true_of_le (by omega)) ?_
  refine jt_grd (by omega) ?_
  refine jt_bI (sp_X12_close E d (jd_le hd rfl) (E.2 ((jxw (y3 + 1)).toNat)) a724_ b hv724_ (OC_fr hg2 hf724_ rfl rfl (fun _ => rfl) (fun _ => rfl) (fun _ => rfl) (fun _ => rfl) (fun _ => rfl)) (FO_fr hg3 hf724_ rfl rfl (fun _ => rfl))) (fun r726_ a726_ b726_ h726_ => ?_)
  obtain ⟨hv726_, hf726_, rfl, hq726_0, hq726_1⟩ := h726_
  have h727_ := iv_get hv724_ (k := 146) (j := 64) (l := 0) (u := 6) rfl
  have h728_ : a724_ 146 64 = a 146 64 := hf724_ 146 64 rfl
  have h729_ := iv_get hv (k := 146) (j := 64) (l := 0) (u := 6) rfl
  have h730_ := iv_get hv726_ (k := 0) (j := 0) (l := 0) (u := 1999) rfl
  have h731_ : a726_ 0 0 = a724_ 0 0 := hf726_ 0 0 rfl
  have h732_ := iv_get hv724_ (k := 0) (j := 0) (l := 0) (u := 1999) rfl
  have h733_ : a724_ 0 0 = a 0 0 := hf724_ 0 0 rfl
  have h734_ := iv_get hv726_ (k := 146) (j := 0) (l := 0) (u := 1999) rfl
  have h735_ : a726_ 146 0 = a724_ 146 0 := hf726_ 146 0 rfl
  have h736_ := iv_get hv724_ (k := 146) (j := 0) (l := 0) (u := 1999) rfl
  have h737_ : a724_ 146 0 = a 146 0 := hf724_ 146 0 rfl
  have h738_ := iv_get hv726_ (k := 4) (j := 6) (l := 0) (u := 40) rfl
  have h739_ : a726_ 4 6 = a724_ 4 6 := hf726_ 4 6 rfl
  have h740_ := iv_get hv724_ (k := 4) (j := 6) (l := 0) (u := 40) rfl
  have h741_ : a724_ 4 6 = a 4 6 := hf724_ 4 6 rfl
  have h742_ := iv_get hv726_ (k := 146) (j := 2) (l := 0) (u := 40) rfl
  have h743_ : a726_ 146 2 = a724_ 146 2 := hf726_ 146 2 rfl
  have h744_ := iv_get hv724_ (k := 146) (j := 2) (l := 0) (u := 40) rfl
  have h745_ : a724_ 146 2 = a 146 2 := hf724_ 146 2 rfl
  have h746_ := iv_get hv726_ (k := 83) (j := 6) (l := 0) (u := 20) rfl
  have h747_ : a726_ 83 6 = a724_ 83 6 := hf726_ 83 6 rfl
  have h748_ := iv_get hv724_ (k := 83) (j := 6) (l := 0) (u := 20) rfl
  have h749_ : a724_ 83 6 = a 83 6 := hf724_ 83 6 rfl
  have h750_ := iv_get hv726_ (k := 146) (j := 49) (l := 0) (u := 20) rfl
  have h751_ : a726_ 146 49 = a724_ 146 49 := hf726_ 146 49 rfl
  have h752_ := iv_get hv724_ (k := 146) (j := 49) (l := 0) (u := 20) rfl
  have h753_ : a724_ 146 49 = a 146 49 := hf724_ 146 49 rfl
  exact hnext a726_ b hv726_ (WFW_fr (WFW_fr hg0 hf724_ (fun _ => rfl) (fun _ => rfl)) hf726_ (fun _ => rfl) (fun _ => rfl)) (SV_fr (SV_fr hg1 hf724_ (fun _ => rfl) (fun _ => rfl)) hf726_ (fun _ => rfl) (fun _ => rfl)) hq726_0 (FO_fr (FO_fr hg3 hf724_ rfl rfl (fun _ => rfl)) hf726_ rfl rfl (fun _ => rfl)) (FW_fr (FW_fr hg4 hf724_ rfl (fun _ => rfl)) hf726_ rfl (fun _ => rfl)) (MEMR_fr (MEMR_fr hg5 hf724_ (fun _ => rfl) (fun _ => rfl) (fun _ => rfl) (fun _ => rfl) (fun _ => rfl) (fun _ => rfl) (fun _ => rfl) (fun _ => rfl) (fun _ => rfl) (fun _ => rfl)) hf726_ (fun _ => rfl) (fun _ => rfl) (fun _ => rfl) (fun _ => rfl) (fun _ => rfl) (fun _ => rfl) (fun _ => rfl) (fun _ => rfl) (fun _ => rfl) (fun _ => rfl)) (show a726_ 0 0 = a726_ 146 0 from by omega) (show a726_ 4 6 = a726_ 146 2 from by omega) (show a726_ 83 6 = a726_ 146 49 from by omega)
theorem lw_op925 (E : jxE) (d : Nat) (hd : Nat.ble 60 (d + 1) = true) (hL : E.1 ≤ 3072) (y3 : Int) (hy0 : 0 ≤ y3) (hy1 : y3 + 6 ≤ E.1) (hnext : ∀ (a b : Nat → Nat → Int) (hv : iv a) (hg0 : WFW a) (hg1 : SV a) (hg2 : OC a) (hg3 : FO a) (hg4 : FW a) (hg5 : MEMR a) (hr0 : a 0 0 = a 146 0) (hr1 : a 4 6 = a 146 2) (hr2 : a 83 6 = a 146 49), jt (jxX E d 305 1189 [some (.inr (.inr (.inl 3000))), some (.inr (.inr (.inl 0))), some (.inr (.inr (.inl 146))), some (.inl y3)] [] (jxSH, a, b)) (fun v _ _ => v = [.inl 1])) (a b : Nat → Nat → Int) (hv : iv a) (hg0 : WFW a) (hg1 : SV a) (hg2 : OC a) (hg3 : FO a) (hg4 : FW a) (hg5 : MEMR a) (hr0 : a 0 0 = a 146 0) (hr1 : a 4 6 = a 146 2) (hr2 : a 83 6 = a 146 49) : jt (jxX E d 305 925 [some (.inr (.inr (.inl 3000))), some (.inr (.inr (.inl 0))), some (.inr (.inr (.inl 146))), some (.inl y3)] [] (jxSH, a, b)) (fun v _ _ => v = [.inl 1]) := by
  refine jt_eq (bq_law_925 E d y3 a b) ?_
  have h754_ := iv_get hv (k := 0) (j := 0) (l := 0) (u := 1999) rfl
  have h755_ := iv_get hv (k := 146) (j := 0) (l := 0) (u := 1999) rfl
  have h756_ := iv_get hv (k := 4) (j := 6) (l := 0) (u := 40) rfl
  have h757_ := iv_get hv (k := 146) (j := 2) (l := 0) (u := 40) rfl
  have h758_ := iv_get hv (k := 83) (j := 6) (l := 0) (u := 20) rfl
  have h759_ := iv_get hv (k := 146) (j := 49) (l := 0) (u := 20) rfl
  refine jt_bif (Nat.ble_eq_true_of_le (by omega)) ?_
  have h760_ : jxw (y3 + 1) = y3 + 1 := jxw_id (by omega) (by omega)
  refine jt_grd (by omega) ?_
  refine jt_bif (Nat.ble_eq_true_of_le (by omega)) ?_
  have h761_ : jxw (y3 + 2) = y3 + 2 := jxw_id (by omega) (by omega)
  refine jt_grd (by omega) ?_
  refine jt_bI (sp_X11_drop E d (jd_le hd rfl) (E.2 ((jxw (y3 + 1)).toNat)) (E.2 ((jxw (y3 + 2)).toNat)) a b hv) (fun r762_ a762_ b762_ h762_ => ?_)
  obtain ⟨hv762_, hf762_, rfl, hq762_0⟩ := h762_
  refine jt_eq (bq_law_940 E d y3 a762_ b) ?_
  refine jt_bif (Nat.ble_eq_true_of_le (by omega)) ?_
  refine jt_grd (by omega) ?_
  refine jt_bif (Nat.ble_eq_true_of_le (by omega)) ?_
  refine jt_grd (by omega) ?_
  refine jt_bI (sp_X12_drop E d (jd_le hd rfl) (E.2 ((jxw (y3 + 1)).toNat)) (E.2 ((jxw (y3 + 2)).toNat)) a762_ b hv762_ (OC_fr hg2 hf762_ rfl rfl (fun _ => rfl) (fun _ => rfl) (fun _ => rfl) (fun _ => rfl) (fun _ => rfl))) (fun r763_ a763_ b763_ h763_ => ?_)
  obtain ⟨hv763_, hf763_, rfl, hq763_0, hq763_1⟩ := h763_
  have h764_ : a762_ 146 55 = a 146 55 := hf762_ 146 55 rfl
  have h765_ := iv_get hv763_ (k := 0) (j := 0) (l := 0) (u := 1999) rfl
  have h766_ : a763_ 0 0 = a762_ 0 0 := hf763_ 0 0 rfl
  have h767_ := iv_get hv762_ (k := 0) (j := 0) (l := 0) (u := 1999) rfl
  have h768_ : a762_ 0 0 = a 0 0 := hf762_ 0 0 rfl
  have h769_ := iv_get hv763_ (k := 146) (j := 0) (l := 0) (u := 1999) rfl
  have h770_ : a763_ 146 0 = a762_ 146 0 := hf763_ 146 0 rfl
  have h771_ := iv_get hv762_ (k := 146) (j := 0) (l := 0) (u := 1999) rfl
  have h772_ : a762_ 146 0 = a 146 0 := hf762_ 146 0 rfl
  have h773_ := iv_get hv763_ (k := 4) (j := 6) (l := 0) (u := 40) rfl
  have h774_ : a763_ 4 6 = a762_ 4 6 := hf763_ 4 6 rfl
  have h775_ := iv_get hv762_ (k := 4) (j := 6) (l := 0) (u := 40) rfl
  have h776_ : a762_ 4 6 = a 4 6 := hf762_ 4 6 rfl
  have h777_ := iv_get hv763_ (k := 146) (j := 2) (l := 0) (u := 40) rfl
  have h778_ : a763_ 146 2 = a762_ 146 2 := hf763_ 146 2 rfl
  have h779_ := iv_get hv762_ (k := 146) (j := 2) (l := 0) (u := 40) rfl
  have h780_ : a762_ 146 2 = a 146 2 := hf762_ 146 2 rfl
  have h781_ := iv_get hv763_ (k := 83) (j := 6) (l := 0) (u := 20) rfl
  have h782_ : a763_ 83 6 = a762_ 83 6 := hf763_ 83 6 rfl
  have h783_ := iv_get hv762_ (k := 83) (j := 6) (l := 0) (u := 20) rfl
  have h784_ : a762_ 83 6 = a 83 6 := hf762_ 83 6 rfl
  have h785_ := iv_get hv763_ (k := 146) (j := 49) (l := 0) (u := 20) rfl
  have h786_ : a763_ 146 49 = a762_ 146 49 := hf763_ 146 49 rfl
  have h787_ := iv_get hv762_ (k := 146) (j := 49) (l := 0) (u := 20) rfl
  have h788_ : a762_ 146 49 = a 146 49 := hf762_ 146 49 rfl
  exact hnext a763_ b hv763_ (WFW_fr (WFW_fr hg0 hf762_ (fun _ => rfl) (fun _ => rfl)) hf763_ (fun _ => rfl) (fun _ => rfl)) (SV_fr (SV_fr hg1 hf762_ (fun _ => rfl) (fun _ => rfl)) hf763_ (fun _ => rfl) (fun _ => rfl)) hq763_0 (FO_fr (FO_fr hg3 hf762_ rfl rfl (fun _ => rfl)) hf763_ rfl rfl (fun _ => rfl)) (FW_fr (FW_fr hg4 hf762_ rfl (fun _ => rfl)) hf763_ rfl (fun _ => rfl)) (MEMR_fr (MEMR_fr hg5 hf762_ (fun _ => rfl) (fun _ => rfl) (fun _ => rfl) (fun _ => rfl) (fun _ => rfl) (fun _ => rfl) (fun _ => rfl) (fun _ => rfl) (fun _ => rfl) (fun _ => rfl)) hf763_ (fun _ => rfl) (fun _ => rfl) (fun _ => rfl) (fun _ => rfl) (fun _ => rfl) (fun _ => rfl) (fun _ => rfl) (fun _ => rfl) (fun _ => rfl) (fun _ => rfl)) (show a763_ 0 0 = a763_ 146 0 from by omega) (show a763_ 4 6 = a763_ 146 2 from by omega) (show a763_ 83 6 = a763_ 146 49 from by omega)
theorem lw_op958 (E : jxE) (d : Nat) (hd : Nat.ble 60 (d + 1) = true) (hL : E.1 ≤ 3072) (y3 : Int) (hy0 : 0 ≤ y3) (hy1 : y3 + 6 ≤ E.1) (hnext : ∀ (a b : Nat → Nat → Int) (hv : iv a) (hg0 : WFW a) (hg1 : SV a) (hg2 : OC a) (hg3 : FO a) (hg4 : FW a) (hg5 : MEMR a) (hr0 : a 0 0 = a 146 0) (hr1 : a 4 6 = a 146 2) (hr2 : a 83 6 = a 146 49), jt (jxX E d 305 1189 [some (.inr (.inr (.inl 3000))), some (.inr (.inr (.inl 0))), some (.inr (.inr (.inl 146))), some (.inl y3)] [] (jxSH, a, b)) (fun v _ _ => v = [.inl 1])) (a b : Nat → Nat → Int) (hv : iv a) (hg0 : WFW a) (hg1 : SV a) (hg2 : OC a) (hg3 : FO a) (hg4 : FW a) (hg5 : MEMR a) (hr0 : a 0 0 = a 146 0) (hr1 : a 4 6 = a 146 2) (hr2 : a 83 6 = a 146 49) : jt (jxX E d 305 958 [some (.inr (.inr (.inl 3000))), some (.inr (.inr (.inl 0))), some (.inr (.inr (.inl 146))), some (.inl y3)] [] (jxSH, a, b)) (fun v _ _ => v = [.inl 1]) := by
  refine jt_eq (bq_law_958 E d y3 a b) ?_
  have h789_ := iv_get hv (k := 0) (j := 0) (l := 0) (u := 1999) rfl
  have h790_ := iv_get hv (k := 146) (j := 0) (l := 0) (u := 1999) rfl
  have h791_ := iv_get hv (k := 4) (j := 6) (l := 0) (u := 40) rfl
  have h792_ := iv_get hv (k := 146) (j := 2) (l := 0) (u := 40) rfl
  have h793_ := iv_get hv (k := 83) (j := 6) (l := 0) (u := 20) rfl
  have h794_ := iv_get hv (k := 146) (j := 49) (l := 0) (u := 20) rfl
  refine jt_bif (Nat.ble_eq_true_of_le (by omega)) ?_
  have h795_ : jxw (y3 + 1) = y3 + 1 := jxw_id (by omega) (by omega)
  refine jt_grd (by omega) ?_
  refine jt_bif (Nat.ble_eq_true_of_le (by omega)) ?_
  have h796_ : jxw (y3 + 2) = y3 + 2 := jxw_id (by omega) (by omega)
  refine jt_grd (by omega) ?_
  refine jt_eI (eq_X11_offers E d (jd_le hd rfl) (E.2 ((jxw (y3 + 1)).toNat)) (E.2 ((jxw (y3 + 2)).toNat)) a b) ?_
  refine jt_eq (bq_law_973 E d y3 a b) ?_
  refine jt_bif (Nat.ble_eq_true_of_le (by omega)) ?_
  refine jt_grd (by omega) ?_
  refine jt_bif (Nat.ble_eq_true_of_le (by omega)) ?_
  refine jt_grd (by omega) ?_
  refine jt_eI (eq_X12_offers E d (jd_le hd rfl) (E.2 ((jxw (y3 + 1)).toNat)) (E.2 ((jxw (y3 + 2)).toNat)) a b hv) ?_
  exact hnext a b hv hg0 hg1 hg2 hg3 hg4 hg5 (show a 0 0 = a 146 0 from by omega) (show a 4 6 = a 146 2 from by omega) (show a 83 6 = a 146 49 from by omega)
theorem lw_op991 (E : jxE) (d : Nat) (hd : Nat.ble 60 (d + 1) = true) (hL : E.1 ≤ 3072) (y3 : Int) (hy0 : 0 ≤ y3) (hy1 : y3 + 6 ≤ E.1) (hnext : ∀ (a b : Nat → Nat → Int) (hv : iv a) (hg0 : WFW a) (hg1 : SV a) (hg2 : OC a) (hg3 : FO a) (hg4 : FW a) (hg5 : MEMR a) (hr0 : a 0 0 = a 146 0) (hr1 : a 4 6 = a 146 2) (hr2 : a 83 6 = a 146 49), jt (jxX E d 305 1189 [some (.inr (.inr (.inl 3000))), some (.inr (.inr (.inl 0))), some (.inr (.inr (.inl 146))), some (.inl y3)] [] (jxSH, a, b)) (fun v _ _ => v = [.inl 1])) (a b : Nat → Nat → Int) (hv : iv a) (hg0 : WFW a) (hg1 : SV a) (hg2 : OC a) (hg3 : FO a) (hg4 : FW a) (hg5 : MEMR a) (hr0 : a 0 0 = a 146 0) (hr1 : a 4 6 = a 146 2) (hr2 : a 83 6 = a 146 49) : jt (jxX E d 305 991 [some (.inr (.inr (.inl 3000))), some (.inr (.inr (.inl 0))), some (.inr (.inr (.inl 146))), some (.inl y3)] [] (jxSH, a, b)) (fun v _ _ => v = [.inl 1]) := by
  refine jt_eq (bq_law_991 E d y3 a b) ?_
  have h797_ := iv_get hv (k := 0) (j := 0) (l := 0) (u := 1999) rfl
  have h798_ := iv_get hv (k := 146) (j := 0) (l := 0) (u := 1999) rfl
  have h799_ := iv_get hv (k := 4) (j := 6) (l := 0) (u := 40) rfl
  have h800_ := iv_get hv (k := 146) (j := 2) (l := 0) (u := 40) rfl
  have h801_ := iv_get hv (k := 83) (j := 6) (l := 0) (u := 20) rfl
  have h802_ := iv_get hv (k := 146) (j := 49) (l := 0) (u := 20) rfl
  refine jt_bif (Nat.ble_eq_true_of_le (by omega)) ?_
  have h803_ : jxw (y3 + 1) = y3 + 1 := jxw_id (by omega) (by omega)
  refine jt_grd (by omega) ?_
  refine jt_bI (sp_X11_rates E d (jd_le hd rfl) (E.2 ((jxw (y3 + 1)).toNat)) a b hv) (fun r804_ a804_ b804_ h804_ => ?_)
  obtain ⟨hv804_, hf804_, rfl, hq804_0⟩ := h804_
  have h805_ := iv_get hv (k := 2) (j := 1) (l := 0) (u := 200) rfl
  have h806_ := iv_get hv (k := 105) (j := 5) (l := 0) (u := 10) rfl
  refine jt_eq (bq_law_1001 E d y3 a804_ b) ?_
  refine jt_bif (Nat.ble_eq_true_of_le (by omega)) ?_
  refine jt_grd (by omega) ?_
  refine jt_bI (sp_X12_rates E d (jd_le hd rfl) (E.2 ((jxw (y3 + 1)).toNat)) a804_ b hv804_) (fun r807_ a807_ b807_ h807_ => ?_)
  obtain ⟨hv807_, hf807_, rfl, hq807_0⟩ := h807_
  have h808_ := iv_get hv804_ (k := 146) (j := 22) (l := 0) (u := 200) rfl
  have h809_ : a804_ 146 22 = a 146 22 := hf804_ 146 22 rfl
  have h810_ := iv_get hv (k := 146) (j := 22) (l := 0) (u := 200) rfl
  have h811_ := iv_get hv804_ (k := 146) (j := 68) (l := 0) (u := 10) rfl
  have h812_ : a804_ 146 68 = a 146 68 := hf804_ 146 68 rfl
  have h813_ := iv_get hv (k := 146) (j := 68) (l := 0) (u := 10) rfl
  have h814_ := iv_get hv807_ (k := 0) (j := 0) (l := 0) (u := 1999) rfl
  have h815_ : a807_ 0 0 = a804_ 0 0 := hf807_ 0 0 rfl
  have h816_ := iv_get hv804_ (k := 0) (j := 0) (l := 0) (u := 1999) rfl
  have h817_ : a804_ 0 0 = a 0 0 := hf804_ 0 0 rfl
  have h818_ := iv_get hv807_ (k := 146) (j := 0) (l := 0) (u := 1999) rfl
  have h819_ : a807_ 146 0 = a804_ 146 0 := hf807_ 146 0 rfl
  have h820_ := iv_get hv804_ (k := 146) (j := 0) (l := 0) (u := 1999) rfl
  have h821_ : a804_ 146 0 = a 146 0 := hf804_ 146 0 rfl
  have h822_ := iv_get hv807_ (k := 4) (j := 6) (l := 0) (u := 40) rfl
  have h823_ : a807_ 4 6 = a804_ 4 6 := hf807_ 4 6 rfl
  have h824_ := iv_get hv804_ (k := 4) (j := 6) (l := 0) (u := 40) rfl
  have h825_ : a804_ 4 6 = a 4 6 := hf804_ 4 6 rfl
  have h826_ := iv_get hv807_ (k := 146) (j := 2) (l := 0) (u := 40) rfl
  have h827_ : a807_ 146 2 = a804_ 146 2 := hf807_ 146 2 rfl
  have h828_ := iv_get hv804_ (k := 146) (j := 2) (l := 0) (u := 40) rfl
  have h829_ : a804_ 146 2 = a 146 2 := hf804_ 146 2 rfl
  have h830_ := iv_get hv807_ (k := 83) (j := 6) (l := 0) (u := 20) rfl
  have h831_ : a807_ 83 6 = a804_ 83 6 := hf807_ 83 6 rfl
  have h832_ := iv_get hv804_ (k := 83) (j := 6) (l := 0) (u := 20) rfl
  have h833_ : a804_ 83 6 = a 83 6 := hf804_ 83 6 rfl
  have h834_ := iv_get hv807_ (k := 146) (j := 49) (l := 0) (u := 20) rfl
  have h835_ : a807_ 146 49 = a804_ 146 49 := hf807_ 146 49 rfl
  have h836_ := iv_get hv804_ (k := 146) (j := 49) (l := 0) (u := 20) rfl
  have h837_ : a804_ 146 49 = a 146 49 := hf804_ 146 49 rfl
  exact hnext a807_ b hv807_ (WFW_fr (WFW_fr hg0 hf804_ (fun _ => rfl) (fun _ => rfl)) hf807_ (fun _ => rfl) (fun _ => rfl)) (SV_fr (SV_fr hg1 hf804_ (fun _ => rfl) (fun _ => rfl)) hf807_ (fun _ => rfl) (fun _ => rfl)) (OC_fr (OC_fr hg2 hf804_ rfl rfl (fun _ => rfl) (fun _ => rfl) (fun _ => rfl) (fun _ => rfl) (fun _ => rfl)) hf807_ rfl rfl (fun _ => rfl) (fun _ => rfl) (fun _ => rfl) (fun _ => rfl) (fun _ => rfl)) (FO_fr (FO_fr hg3 hf804_ rfl rfl (fun _ => rfl)) hf807_ rfl rfl (fun _ => rfl)) (FW_fr (FW_fr hg4 hf804_ rfl (fun _ => rfl)) hf807_ rfl (fun _ => rfl)) (MEMR_fr (MEMR_fr hg5 hf804_ (fun _ => rfl) (fun _ => rfl) (fun _ => rfl) (fun _ => rfl) (fun _ => rfl) (fun _ => rfl) (fun _ => rfl) (fun _ => rfl) (fun _ => rfl) (fun _ => rfl)) hf807_ (fun _ => rfl) (fun _ => rfl) (fun _ => rfl) (fun _ => rfl) (fun _ => rfl) (fun _ => rfl) (fun _ => rfl) (fun _ => rfl) (fun _ => rfl) (fun _ => rfl)) (show a807_ 0 0 = a807_ 146 0 from by omega) (show a807_ 4 6 = a807_ 146 2 from by omega) (show a807_ 83 6 = a807_ 146 49 from by omega)
theorem lw_op1014 (E : jxE) (d : Nat) (hd : Nat.ble 60 (d + 1) = true) (hL : E.1 ≤ 3072) (y3 : Int) (hy0 : 0 ≤ y3) (hy1 : y3 + 6 ≤ E.1) (hnext : ∀ (a b : Nat → Nat → Int) (hv : iv a) (hg0 : WFW a) (hg1 : SV a) (hg2 : OC a) (hg3 : FO a) (hg4 : FW a) (hg5 : MEMR a) (hr0 : a 0 0 = a 146 0) (hr1 : a 4 6 = a 146 2) (hr2 : a 83 6 = a 146 49), jt (jxX E d 305 1189 [some (.inr (.inr (.inl 3000))), some (.inr (.inr (.inl 0))), some (.inr (.inr (.inl 146))), some (.inl y3)] [] (jxSH, a, b)) (fun v _ _ => v = [.inl 1])) (a b : Nat → Nat → Int) (hv : iv a) (hg0 : WFW a) (hg1 : SV a) (hg2 : OC a) (hg3 : FO a) (hg4 : FW a) (hg5 : MEMR a) (hr0 : a 0 0 = a 146 0) (hr1 : a 4 6 = a 146 2) (hr2 : a 83 6 = a 146 49) : jt (jxX E d 305 1014 [some (.inr (.inr (.inl 3000))), some (.inr (.inr (.inl 0))), some (.inr (.inr (.inl 146))), some (.inl y3)] [] (jxSH, a, b)) (fun v _ _ => v = [.inl 1]) := by
  refine jt_eq (bq_law_1014 E d y3 a b) ?_
  have h838_ := iv_get hv (k := 0) (j := 0) (l := 0) (u := 1999) rfl
  have h839_ := iv_get hv (k := 146) (j := 0) (l := 0) (u := 1999) rfl
  have h840_ := iv_get hv (k := 4) (j := 6) (l := 0) (u := 40) rfl
  have h841_ := iv_get hv (k := 146) (j := 2) (l := 0) (u := 40) rfl
  have h842_ := iv_get hv (k := 83) (j := 6) (l := 0) (u := 20) rfl
  have h843_ := iv_get hv (k := 146) (j := 49) (l := 0) (u := 20) rfl
  refine jt_bif (Nat.ble_eq_true_of_le (by omega)) ?_
  have h844_ : jxw (y3 + 1) = y3 + 1 := jxw_id (by omega) (by omega)
  refine jt_grd (by omega) ?_
  refine jt_bif (Nat.ble_eq_true_of_le (by omega)) ?_
  have h845_ : jxw (y3 + 2) = y3 + 2 := jxw_id (by omega) (by omega)
  refine jt_grd (by omega) ?_
  refine jt_bif (Nat.ble_eq_true_of_le (by omega)) ?_
  have h846_ : jxw (y3 + 3) = y3 + 3 := jxw_id (by omega) (by omega)
  refine jt_grd (by omega) ?_
  refine jt_bif (Nat.ble_eq_true_of_le (by omega)) ?_
  have h847_ : jxw (y3 + 4) = y3 + 4 := jxw_id (by omega) (by omega)
  refine jt_grd (by omega) ?_
  refine jt_bI (sp_X11_price E d (jd_le hd rfl) (E.2 ((jxw (y3 + 1)).toNat)) (E.2 ((jxw (y3 + 2)).toNat)) (E.2 ((jxw (y3 + 3)).toNat)) (E.2 ((jxw (y3 + 4)).toNat)) a b hv) (fun r848_ a848_ b848_ h848_ => ?_)
  obtain ⟨rfl, rfl, hq848_0⟩ := h848_
  have h849_ := iv_get hv (k := 105) (j := 5) (l := 0) (u := 10) rfl
  refine jt_eq (bq_law_1039 E d y3 a b) ?_
  refine jt_bif (Nat.ble_eq_true_of_le (by omega)) ?_
  refine jt_grd (by omega) ?_
  refine jt_bif (Nat.ble_eq_true_of_le (by omega)) ?_
  refine jt_grd (by omega) ?_
  refine jt_bif (Nat.ble_eq_true_of_le (by omega)) ?_
  refine jt_grd (by omega) ?_
  refine jt_bif (Nat.ble_eq_true_of_le (by omega)) ?_
  refine jt_grd (by omega) ?_
  refine jt_bI (sp_X12_price E d (jd_le hd rfl) (E.2 ((jxw (y3 + 1)).toNat)) (E.2 ((jxw (y3 + 2)).toNat)) (E.2 ((jxw (y3 + 3)).toNat)) (E.2 ((jxw (y3 + 4)).toNat)) a b hv) (fun r850_ a850_ b850_ h850_ => ?_)
  obtain ⟨rfl, rfl, hq850_0⟩ := h850_
  have h851_ := iv_get hv (k := 146) (j := 68) (l := 0) (u := 10) rfl
  refine jt_eq (bq_law_1064 E d y3 a b) ?_
  exact hnext a b hv hg0 hg1 hg2 hg3 hg4 hg5 (show a 0 0 = a 146 0 from by omega) (show a 4 6 = a 146 2 from by omega) (show a 83 6 = a 146 49 from by omega)
theorem lw_op1067 (E : jxE) (d : Nat) (hd : Nat.ble 60 (d + 1) = true) (hL : E.1 ≤ 3072) (y3 : Int) (hy0 : 0 ≤ y3) (hy1 : y3 + 6 ≤ E.1) (hnext : ∀ (a b : Nat → Nat → Int) (hv : iv a) (hg0 : WFW a) (hg1 : SV a) (hg2 : OC a) (hg3 : FO a) (hg4 : FW a) (hg5 : MEMR a) (hr0 : a 0 0 = a 146 0) (hr1 : a 4 6 = a 146 2) (hr2 : a 83 6 = a 146 49), jt (jxX E d 305 1189 [some (.inr (.inr (.inl 3000))), some (.inr (.inr (.inl 0))), some (.inr (.inr (.inl 146))), some (.inl y3)] [] (jxSH, a, b)) (fun v _ _ => v = [.inl 1])) (a b : Nat → Nat → Int) (hv : iv a) (hg0 : WFW a) (hg1 : SV a) (hg2 : OC a) (hg3 : FO a) (hg4 : FW a) (hg5 : MEMR a) (hr0 : a 0 0 = a 146 0) (hr1 : a 4 6 = a 146 2) (hr2 : a 83 6 = a 146 49) : jt (jxX E d 305 1067 [some (.inr (.inr (.inl 3000))), some (.inr (.inr (.inl 0))), some (.inr (.inr (.inl 146))), some (.inl y3)] [] (jxSH, a, b)) (fun v _ _ => v = [.inl 1]) := by
  refine jt_eq (bq_law_1067 E d y3 a b) ?_
  have h852_ := iv_get hv (k := 0) (j := 0) (l := 0) (u := 1999) rfl
  have h853_ := iv_get hv (k := 146) (j := 0) (l := 0) (u := 1999) rfl
  have h854_ := iv_get hv (k := 4) (j := 6) (l := 0) (u := 40) rfl
  have h855_ := iv_get hv (k := 146) (j := 2) (l := 0) (u := 40) rfl
  have h856_ := iv_get hv (k := 83) (j := 6) (l := 0) (u := 20) rfl
  have h857_ := iv_get hv (k := 146) (j := 49) (l := 0) (u := 20) rfl
  refine jt_bif (Nat.ble_eq_true_of_le (by omega)) ?_
  have h858_ : jxw (y3 + 1) = y3 + 1 := jxw_id (by omega) (by omega)
  refine jt_grd (by omega) ?_
  refine jt_bif (Nat.ble_eq_true_of_le (by omega)) ?_
  have h859_ : jxw (y3 + 2) = y3 + 2 := jxw_id (by omega) (by omega)
  refine jt_grd (by omega) ?_
  refine jt_bif (Nat.ble_eq_true_of_le (by omega)) ?_
  have h860_ : jxw (y3 + 3) = y3 + 3 := jxw_id (by omega) (by omega)
  refine jt_grd (by omega) ?_
  refine jt_bI (sp_X11_stamps E d (jd_le hd rfl) (E.2 ((jxw (y3 + 1)).toNat)) (E.2 ((jxw (y3 + 2)).toNat)) (E.2 ((jxw (y3 + 3)).toNat)) a b hv) (fun r861_ a861_ b861_ h861_ => ?_)
  obtain ⟨hv861_, hf861_, rfl, hq861_0, hq861_1⟩ := h861_
  refine jt_eq (bq_law_1087 E d y3 a861_ b) ?_
  refine jt_bif (Nat.ble_eq_true_of_le (by omega)) ?_
  refine jt_grd (by omega) ?_
  refine jt_bif (Nat.ble_eq_true_of_le (by omega)) ?_
  refine jt_grd (by omega) ?_
  refine jt_bif (Nat.ble_eq_true_of_le (by omega)) ?_
  refine jt_grd (by omega) ?_
  refine jt_bI (sp_X12_stamps E d (jd_le hd rfl) (E.2 ((jxw (y3 + 1)).toNat)) (E.2 ((jxw (y3 + 2)).toNat)) (E.2 ((jxw (y3 + 3)).toNat)) a861_ b hv861_ (SV_fr hg1 hf861_ (fun _ => rfl) (fun _ => rfl))) (fun r862_ a862_ b862_ h862_ => ?_)
  obtain ⟨hv862_, hf862_, rfl, hq862_0, hq862_1, hq862_2⟩ := h862_
  refine jt_eq (bq_law_1107 E d y3 a862_ b) ?_
  have h863_ := iv_get hv862_ (k := 0) (j := 0) (l := 0) (u := 1999) rfl
  have h864_ : a862_ 0 0 = a861_ 0 0 := hf862_ 0 0 rfl
  have h865_ := iv_get hv861_ (k := 0) (j := 0) (l := 0) (u := 1999) rfl
  have h866_ : a861_ 0 0 = a 0 0 := hf861_ 0 0 rfl
  have h867_ := iv_get hv862_ (k := 146) (j := 0) (l := 0) (u := 1999) rfl
  have h868_ : a862_ 146 0 = a861_ 146 0 := hf862_ 146 0 rfl
  have h869_ := iv_get hv861_ (k := 146) (j := 0) (l := 0) (u := 1999) rfl
  have h870_ : a861_ 146 0 = a 146 0 := hf861_ 146 0 rfl
  have h871_ := iv_get hv862_ (k := 4) (j := 6) (l := 0) (u := 40) rfl
  have h872_ : a862_ 4 6 = a861_ 4 6 := hf862_ 4 6 rfl
  have h873_ := iv_get hv861_ (k := 4) (j := 6) (l := 0) (u := 40) rfl
  have h874_ : a861_ 4 6 = a 4 6 := hf861_ 4 6 rfl
  have h875_ := iv_get hv862_ (k := 146) (j := 2) (l := 0) (u := 40) rfl
  have h876_ : a862_ 146 2 = a861_ 146 2 := hf862_ 146 2 rfl
  have h877_ := iv_get hv861_ (k := 146) (j := 2) (l := 0) (u := 40) rfl
  have h878_ : a861_ 146 2 = a 146 2 := hf861_ 146 2 rfl
  have h879_ := iv_get hv862_ (k := 83) (j := 6) (l := 0) (u := 20) rfl
  have h880_ : a862_ 83 6 = a861_ 83 6 := hf862_ 83 6 rfl
  have h881_ := iv_get hv861_ (k := 83) (j := 6) (l := 0) (u := 20) rfl
  have h882_ : a861_ 83 6 = a 83 6 := hf861_ 83 6 rfl
  have h883_ := iv_get hv862_ (k := 146) (j := 49) (l := 0) (u := 20) rfl
  have h884_ : a862_ 146 49 = a861_ 146 49 := hf862_ 146 49 rfl
  have h885_ := iv_get hv861_ (k := 146) (j := 49) (l := 0) (u := 20) rfl
  have h886_ : a861_ 146 49 = a 146 49 := hf861_ 146 49 rfl
  exact hnext a862_ b hv862_ (WFW_fr (WFW_fr hg0 hf861_ (fun _ => rfl) (fun _ => rfl)) hf862_ (fun _ => rfl) (fun _ => rfl)) hq862_1 (OC_fr (OC_fr hg2 hf861_ rfl rfl (fun _ => rfl) (fun _ => rfl) (fun _ => rfl) (fun _ => rfl) (fun _ => rfl)) hf862_ rfl rfl (fun _ => rfl) (fun _ => rfl) (fun _ => rfl) (fun _ => rfl) (fun _ => rfl)) (FO_fr (FO_fr hg3 hf861_ rfl rfl (fun _ => rfl)) hf862_ rfl rfl (fun _ => rfl)) (FW_fr (FW_fr hg4 hf861_ rfl (fun _ => rfl)) hf862_ rfl (fun _ => rfl)) (MEMR_fr (MEMR_fr hg5 hf861_ (fun _ => rfl) (fun _ => rfl) (fun _ => rfl) (fun _ => rfl) (fun _ => rfl) (fun _ => rfl) (fun _ => rfl) (fun _ => rfl) (fun _ => rfl) (fun _ => rfl)) hf862_ (fun _ => rfl) (fun _ => rfl) (fun _ => rfl) (fun _ => rfl) (fun _ => rfl) (fun _ => rfl) (fun _ => rfl) (fun _ => rfl) (fun _ => rfl) (fun _ => rfl)) (show a862_ 0 0 = a862_ 146 0 from by omega) (show a862_ 4 6 = a862_ 146 2 from by omega) (show a862_ 83 6 = a862_ 146 49 from by omega)
theorem lw_op1110 (E : jxE) (d : Nat) (hd : Nat.ble 60 (d + 1) = true) (hL : E.1 ≤ 3072) (y3 : Int) (hy0 : 0 ≤ y3) (hy1 : y3 + 6 ≤ E.1) (hnext : ∀ (a b : Nat → Nat → Int) (hv : iv a) (hg0 : WFW a) (hg1 : SV a) (hg2 : OC a) (hg3 : FO a) (hg4 : FW a) (hg5 : MEMR a) (hr0 : a 0 0 = a 146 0) (hr1 : a 4 6 = a 146 2) (hr2 : a 83 6 = a 146 49), jt (jxX E d 305 1189 [some (.inr (.inr (.inl 3000))), some (.inr (.inr (.inl 0))), some (.inr (.inr (.inl 146))), some (.inl y3)] [] (jxSH, a, b)) (fun v _ _ => v = [.inl 1])) (a b : Nat → Nat → Int) (hv : iv a) (hg0 : WFW a) (hg1 : SV a) (hg2 : OC a) (hg3 : FO a) (hg4 : FW a) (hg5 : MEMR a) (hr0 : a 0 0 = a 146 0) (hr1 : a 4 6 = a 146 2) (hr2 : a 83 6 = a 146 49) : jt (jxX E d 305 1110 [some (.inr (.inr (.inl 3000))), some (.inr (.inr (.inl 0))), some (.inr (.inr (.inl 146))), some (.inl y3)] [] (jxSH, a, b)) (fun v _ _ => v = [.inl 1]) := by
  refine jt_eq (bq_law_1110 E d y3 a b) ?_
  have h887_ := iv_get hv (k := 0) (j := 0) (l := 0) (u := 1999) rfl
  have h888_ := iv_get hv (k := 146) (j := 0) (l := 0) (u := 1999) rfl
  have h889_ := iv_get hv (k := 4) (j := 6) (l := 0) (u := 40) rfl
  have h890_ := iv_get hv (k := 146) (j := 2) (l := 0) (u := 40) rfl
  have h891_ := iv_get hv (k := 83) (j := 6) (l := 0) (u := 20) rfl
  have h892_ := iv_get hv (k := 146) (j := 49) (l := 0) (u := 20) rfl
  refine jt_bif (Nat.ble_eq_true_of_le (by omega)) ?_
  have h893_ : jxw (y3 + 1) = y3 + 1 := jxw_id (by omega) (by omega)
  refine jt_grd (by omega) ?_
  refine jt_bif (Nat.ble_eq_true_of_le (by omega)) ?_
  have h894_ : jxw (y3 + 2) = y3 + 2 := jxw_id (by omega) (by omega)
  refine jt_grd (by omega) ?_
  refine jt_bI (sp_X11_pay E d (jd_le hd rfl) (E.2 ((jxw (y3 + 1)).toNat)) (E.2 ((jxw (y3 + 2)).toNat)) a b hv) (fun r895_ a895_ b895_ h895_ => ?_)
  obtain ⟨hv895_, hf895_, hq895_0⟩ := h895_
  have h896_ := iv_get hv (k := 58) (j := 8) (l := 0) (u := 300) rfl
  refine jt_eq (bq_law_1125 E d y3 a895_ b895_) ?_
  refine jt_bif (Nat.ble_eq_true_of_le (by omega)) ?_
  refine jt_grd (by omega) ?_
  refine jt_bif (Nat.ble_eq_true_of_le (by omega)) ?_
  refine jt_grd (by omega) ?_
  refine jt_bI (sp_X12_pay E d (jd_le hd rfl) (E.2 ((jxw (y3 + 1)).toNat)) (E.2 ((jxw (y3 + 2)).toNat)) a895_ b895_ hv895_ (SV_fr hg1 hf895_ (fun _ => rfl) (fun _ => rfl))) (fun r897_ a897_ b897_ h897_ => ?_)
  obtain ⟨hv897_, hf897_, rfl, hq897_0, hq897_1⟩ := h897_
  have h898_ := iv_get hv895_ (k := 146) (j := 9) (l := 0) (u := 300) rfl
  have h899_ : a895_ 146 9 = a 146 9 := hf895_ 146 9 rfl
  have h900_ := iv_get hv (k := 146) (j := 9) (l := 0) (u := 300) rfl
  have h901_ := iv_get hv897_ (k := 0) (j := 0) (l := 0) (u := 1999) rfl
  have h902_ : a897_ 0 0 = a895_ 0 0 := hf897_ 0 0 rfl
  have h903_ := iv_get hv895_ (k := 0) (j := 0) (l := 0) (u := 1999) rfl
  have h904_ : a895_ 0 0 = a 0 0 := hf895_ 0 0 rfl
  have h905_ := iv_get hv897_ (k := 146) (j := 0) (l := 0) (u := 1999) rfl
  have h906_ : a897_ 146 0 = a895_ 146 0 := hf897_ 146 0 rfl
  have h907_ := iv_get hv895_ (k := 146) (j := 0) (l := 0) (u := 1999) rfl
  have h908_ : a895_ 146 0 = a 146 0 := hf895_ 146 0 rfl
  have h909_ := iv_get hv897_ (k := 4) (j := 6) (l := 0) (u := 40) rfl
  have h910_ : a897_ 4 6 = a895_ 4 6 := hf897_ 4 6 rfl
  have h911_ := iv_get hv895_ (k := 4) (j := 6) (l := 0) (u := 40) rfl
  have h912_ : a895_ 4 6 = a 4 6 := hf895_ 4 6 rfl
  have h913_ := iv_get hv897_ (k := 146) (j := 2) (l := 0) (u := 40) rfl
  have h914_ : a897_ 146 2 = a895_ 146 2 := hf897_ 146 2 rfl
  have h915_ := iv_get hv895_ (k := 146) (j := 2) (l := 0) (u := 40) rfl
  have h916_ : a895_ 146 2 = a 146 2 := hf895_ 146 2 rfl
  have h917_ := iv_get hv897_ (k := 83) (j := 6) (l := 0) (u := 20) rfl
  have h918_ : a897_ 83 6 = a895_ 83 6 := hf897_ 83 6 rfl
  have h919_ := iv_get hv895_ (k := 83) (j := 6) (l := 0) (u := 20) rfl
  have h920_ : a895_ 83 6 = a 83 6 := hf895_ 83 6 rfl
  have h921_ := iv_get hv897_ (k := 146) (j := 49) (l := 0) (u := 20) rfl
  have h922_ : a897_ 146 49 = a895_ 146 49 := hf897_ 146 49 rfl
  have h923_ := iv_get hv895_ (k := 146) (j := 49) (l := 0) (u := 20) rfl
  have h924_ : a895_ 146 49 = a 146 49 := hf895_ 146 49 rfl
  exact hnext a897_ b895_ hv897_ (WFW_fr (WFW_fr hg0 hf895_ (fun _ => rfl) (fun _ => rfl)) hf897_ (fun _ => rfl) (fun _ => rfl)) hq897_0 (OC_fr (OC_fr hg2 hf895_ rfl rfl (fun _ => rfl) (fun _ => rfl) (fun _ => rfl) (fun _ => rfl) (fun _ => rfl)) hf897_ rfl rfl (fun _ => rfl) (fun _ => rfl) (fun _ => rfl) (fun _ => rfl) (fun _ => rfl)) (FO_fr (FO_fr hg3 hf895_ rfl rfl (fun _ => rfl)) hf897_ rfl rfl (fun _ => rfl)) (FW_fr (FW_fr hg4 hf895_ rfl (fun _ => rfl)) hf897_ rfl (fun _ => rfl)) (MEMR_fr (MEMR_fr hg5 hf895_ (fun _ => rfl) (fun _ => rfl) (fun _ => rfl) (fun _ => rfl) (fun _ => rfl) (fun _ => rfl) (fun _ => rfl) (fun _ => rfl) (fun _ => rfl) (fun _ => rfl)) hf897_ (fun _ => rfl) (fun _ => rfl) (fun _ => rfl) (fun _ => rfl) (fun _ => rfl) (fun _ => rfl) (fun _ => rfl) (fun _ => rfl) (fun _ => rfl) (fun _ => rfl)) (show a897_ 0 0 = a897_ 146 0 from by omega) (show a897_ 4 6 = a897_ 146 2 from by omega) (show a897_ 83 6 = a897_ 146 49 from by omega)
theorem lw_op1143 (E : jxE) (d : Nat) (hd : Nat.ble 60 (d + 1) = true) (hL : E.1 ≤ 3072) (y3 : Int) (hy0 : 0 ≤ y3) (hy1 : y3 + 6 ≤ E.1) (hnext : ∀ (a b : Nat → Nat → Int) (hv : iv a) (hg0 : WFW a) (hg1 : SV a) (hg2 : OC a) (hg3 : FO a) (hg4 : FW a) (hg5 : MEMR a) (hr0 : a 0 0 = a 146 0) (hr1 : a 4 6 = a 146 2) (hr2 : a 83 6 = a 146 49), jt (jxX E d 305 1189 [some (.inr (.inr (.inl 3000))), some (.inr (.inr (.inl 0))), some (.inr (.inr (.inl 146))), some (.inl y3)] [] (jxSH, a, b)) (fun v _ _ => v = [.inl 1])) (a b : Nat → Nat → Int) (hv : iv a) (hg0 : WFW a) (hg1 : SV a) (hg2 : OC a) (hg3 : FO a) (hg4 : FW a) (hg5 : MEMR a) (hr0 : a 0 0 = a 146 0) (hr1 : a 4 6 = a 146 2) (hr2 : a 83 6 = a 146 49) : jt (jxX E d 305 1143 [some (.inr (.inr (.inl 3000))), some (.inr (.inr (.inl 0))), some (.inr (.inr (.inl 146))), some (.inl y3)] [] (jxSH, a, b)) (fun v _ _ => v = [.inl 1]) := by
  refine jt_eq (bq_law_1143 E d y3 a b) ?_
  have h925_ := iv_get hv (k := 0) (j := 0) (l := 0) (u := 1999) rfl
  have h926_ := iv_get hv (k := 146) (j := 0) (l := 0) (u := 1999) rfl
  have h927_ := iv_get hv (k := 4) (j := 6) (l := 0) (u := 40) rfl
  have h928_ := iv_get hv (k := 146) (j := 2) (l := 0) (u := 40) rfl
  have h929_ := iv_get hv (k := 83) (j := 6) (l := 0) (u := 20) rfl
  have h930_ := iv_get hv (k := 146) (j := 49) (l := 0) (u := 20) rfl
  refine jt_bif (Nat.ble_eq_true_of_le (by omega)) ?_
  have h931_ : jxw (y3 + 1) = y3 + 1 := jxw_id (by omega) (by omega)
  refine jt_grd (by omega) ?_
  refine jt_eI (eq_X11_paid E d (jd_le hd rfl) (E.2 ((jxw (y3 + 1)).toNat)) a b) ?_
  refine jt_eq (bq_law_1153 E d y3 a b) ?_
  refine jt_bif (Nat.ble_eq_true_of_le (by omega)) ?_
  refine jt_grd (by omega) ?_
  refine jt_eI (eq_X12_paid E d (jd_le hd rfl) (E.2 ((jxw (y3 + 1)).toNat)) a b) ?_
  exact hnext a b hv hg0 hg1 hg2 hg3 hg4 hg5 (show a 0 0 = a 146 0 from by omega) (show a 4 6 = a 146 2 from by omega) (show a 83 6 = a 146 49 from by omega)
theorem lw_op1166 (E : jxE) (d : Nat) (hd : Nat.ble 60 (d + 1) = true) (hL : E.1 ≤ 3072) (y3 : Int) (hy0 : 0 ≤ y3) (hy1 : y3 + 6 ≤ E.1) (hnext : ∀ (a b : Nat → Nat → Int) (hv : iv a) (hg0 : WFW a) (hg1 : SV a) (hg2 : OC a) (hg3 : FO a) (hg4 : FW a) (hg5 : MEMR a) (hr0 : a 0 0 = a 146 0) (hr1 : a 4 6 = a 146 2) (hr2 : a 83 6 = a 146 49), jt (jxX E d 305 1189 [some (.inr (.inr (.inl 3000))), some (.inr (.inr (.inl 0))), some (.inr (.inr (.inl 146))), some (.inl y3)] [] (jxSH, a, b)) (fun v _ _ => v = [.inl 1])) (a b : Nat → Nat → Int) (hv : iv a) (hg0 : WFW a) (hg1 : SV a) (hg2 : OC a) (hg3 : FO a) (hg4 : FW a) (hg5 : MEMR a) (hr0 : a 0 0 = a 146 0) (hr1 : a 4 6 = a 146 2) (hr2 : a 83 6 = a 146 49) : jt (jxX E d 305 1166 [some (.inr (.inr (.inl 3000))), some (.inr (.inr (.inl 0))), some (.inr (.inr (.inl 146))), some (.inl y3)] [] (jxSH, a, b)) (fun v _ _ => v = [.inl 1]) := by
  refine jt_eq (bq_law_1166 E d y3 a b) ?_
  have h932_ := iv_get hv (k := 0) (j := 0) (l := 0) (u := 1999) rfl
  have h933_ := iv_get hv (k := 146) (j := 0) (l := 0) (u := 1999) rfl
  have h934_ := iv_get hv (k := 4) (j := 6) (l := 0) (u := 40) rfl
  have h935_ := iv_get hv (k := 146) (j := 2) (l := 0) (u := 40) rfl
  have h936_ := iv_get hv (k := 83) (j := 6) (l := 0) (u := 20) rfl
  have h937_ := iv_get hv (k := 146) (j := 49) (l := 0) (u := 20) rfl
  refine jt_bif (Nat.ble_eq_true_of_le (by omega)) ?_
  have h938_ : jxw (y3 + 1) = y3 + 1 := jxw_id (by omega) (by omega)
  refine jt_grd (by omega) ?_
  refine jt_bI (sp_X11_count E d (jd_le hd rfl) (E.2 ((jxw (y3 + 1)).toNat)) a b hv) (fun r939_ a939_ b939_ h939_ => ?_)
  obtain ⟨rfl, rfl, hq939_0, hq939_1, hq939_2, hq939_3, hq939_4, hq939_5, hq939_6, hq939_7, hq939_8, hq939_9, hq939_10, hq939_11, hq939_12, hq939_13, hq939_14, hq939_15, hq939_16, hq939_17⟩ := h939_
  have h940_ := iv_get hv (k := 58) (j := 8) (l := 0) (u := 300) rfl
  have h941_ := iv_get hv (k := 58) (j := 12) (l := 0) (u := 600) rfl
  have h942_ := iv_get hv (k := 105) (j := 5) (l := 0) (u := 10) rfl
  have h943_ := iv_get hv (k := 2) (j := 1) (l := 0) (u := 200) rfl
  have h944_ := iv_get hv (k := 0) (j := 9) (l := 0) (u := 8) rfl
  refine jt_eq (bq_law_1176 E d y3 a b) ?_
  refine jt_bif (Nat.ble_eq_true_of_le (by omega)) ?_
  refine jt_grd (by omega) ?_
  refine jt_bI (sp_X12_count E d (jd_le hd rfl) (E.2 ((jxw (y3 + 1)).toNat)) a b hv) (fun r945_ a945_ b945_ h945_ => ?_)
  obtain ⟨rfl, rfl, hq945_0, hq945_1, hq945_2, hq945_3, hq945_4, hq945_5, hq945_6, hq945_7, hq945_8, hq945_9, hq945_10, hq945_11, hq945_12, hq945_13⟩ := h945_
  have h946_ := iv_get hv (k := 146) (j := 9) (l := 0) (u := 300) rfl
  have h947_ := iv_get hv (k := 146) (j := 17) (l := 0) (u := 600) rfl
  have h948_ := iv_get hv (k := 146) (j := 68) (l := 0) (u := 10) rfl
  have h949_ := iv_get hv (k := 146) (j := 22) (l := 0) (u := 200) rfl
  have h950_ := iv_get hv (k := 146) (j := 42) (l := 0) (u := 8) rfl
  exact hnext a b hv hg0 hg1 hg2 hg3 hg4 hg5 (show a 0 0 = a 146 0 from by omega) (show a 4 6 = a 146 2 from by omega) (show a 83 6 = a 146 49 from by omega)
theorem lw_18 (E : jxE) (d : Nat) (hd : Nat.ble 60 (d + 1) = true) (hL : E.1 ≤ 3072) : ∀ n : Nat, ∀ (y3 : Int) (a b : Nat → Nat → Int), ((E.1 : Int) - y3).toNat ≤ n → 0 ≤ y3 → y3 ≤ 3078 → iv a → WFW a → SV a → OC a → FO a → FW a → MEMR a → a 0 0 = a 146 0 → a 4 6 = a 146 2 → a 83 6 = a 146 49 → jt (jxX E d 305 18 [some (.inr (.inr (.inl 3000))), some (.inr (.inr (.inl 0))), some (.inr (.inr (.inl 146))), some (.inl y3)] [] (jxSH, a, b)) (fun v _ _ => v = [.inl 1]) := by
  refine jx_ind fun n ih => ?_
  intro y3 a b hm hy0 hy9 hv hg0 hg1 hg2 hg3 hg4 hg5 hr0 hr1 hr2
  refine jt_eq (bq_law_18 E d y3 a b) ?_
  have hnext0 : y3 + 6 ≤ E.1 → ∀ (a b : Nat → Nat → Int) (hv : iv a) (hg0 : WFW a) (hg1 : SV a) (hg2 : OC a) (hg3 : FO a) (hg4 : FW a) (hg5 : MEMR a) (hr0 : a 0 0 = a 146 0) (hr1 : a 4 6 = a 146 2) (hr2 : a 83 6 = a 146 49), jt (jxX E d 305 1189 [some (.inr (.inr (.inl 3000))), some (.inr (.inr (.inl 0))), some (.inr (.inr (.inl 146))), some (.inl y3)] [] (jxSH, a, b)) (fun v _ _ => v = [.inl 1]) := fun hlt a b hv hg0 hg1 hg2 hg3 hg4 hg5 hr0 hr1 hr2 => by
    refine jt_eq (bq_law_1189 E d y3 a b) ?_
    have e : jxw (y3 + 6) = y3 + 6 := jxw_id (by omega) (by omega)
    rw [e]
    exact ih ((E.1 : Int) - (y3 + 6)).toNat (by omega) (y3 + 6) a b (Nat.le_refl _) (by omega) (by omega) hv hg0 hg1 hg2 hg3 hg4 hg5 hr0 hr1 hr2
  refine jt_bif (Nat.ble_eq_true_of_le (by omega)) ?_
  have e6 : jxw ((E.1 : Int) - 6) = (E.1 : Int) - 6 := jxw_id (by omega) (by omega)
  refine jt_ite (fun c1 => ?_) (fun c1 => ?_)
  · exact ⟨_, _, _, rfl, rfl⟩
  ·
    have hy1 : y3 + 6 ≤ E.1 := by omega
    have hnext := hnext0 hy1
    refine jt_bif (Nat.ble_eq_true_of_le (by omega)) ?_
    refine jt_grd (by omega) ?_
    have h951_ := jxand_r (E.2 (y3.toNat)) 63 (by decide) (by decide)
    refine jt_ite (fun c952_ => ?_) (fun c952_ => ?_)
    ·
      have h953_ := iv_get hv (k := 0) (j := 0) (l := 0) (u := 1999) rfl
      have h954_ := iv_get hv (k := 146) (j := 0) (l := 0) (u := 1999) rfl
      have h955_ := iv_get hv (k := 4) (j := 6) (l := 0) (u := 40) rfl
      have h956_ := iv_get hv (k := 146) (j := 2) (l := 0) (u := 40) rfl
      have h957_ := iv_get hv (k := 83) (j := 6) (l := 0) (u := 20) rfl
      have h958_ := iv_get hv (k := 146) (j := 49) (l := 0) (u := 20) rfl
      exact hnext a b hv hg0 hg1 hg2 hg3 hg4 hg5 (show a 0 0 = a 146 0 from by omega) (show a 4 6 = a 146 2 from by omega) (show a 83 6 = a 146 49 from by omega)
    ·
      refine jt_ite (fun c959_ => ?_) (fun c959_ => ?_)
      ·
        have h960_ := iv_get hv (k := 0) (j := 0) (l := 0) (u := 1999) rfl
        have h961_ := iv_get hv (k := 146) (j := 0) (l := 0) (u := 1999) rfl
        have h962_ := iv_get hv (k := 4) (j := 6) (l := 0) (u := 40) rfl
        have h963_ := iv_get hv (k := 146) (j := 2) (l := 0) (u := 40) rfl
        have h964_ := iv_get hv (k := 83) (j := 6) (l := 0) (u := 20) rfl
        have h965_ := iv_get hv (k := 146) (j := 49) (l := 0) (u := 20) rfl
        exact lw_op180 E d hd hL y3 hy0 (by omega) hnext a b hv hg0 hg1 hg2 hg3 hg4 hg5 (show a 0 0 = a 146 0 from by omega) (show a 4 6 = a 146 2 from by omega) (show a 83 6 = a 146 49 from by omega)
      ·
        refine jt_ite (fun c966_ => ?_) (fun c966_ => ?_)
        ·
          have h967_ := iv_get hv (k := 0) (j := 0) (l := 0) (u := 1999) rfl
          have h968_ := iv_get hv (k := 146) (j := 0) (l := 0) (u := 1999) rfl
          have h969_ := iv_get hv (k := 4) (j := 6) (l := 0) (u := 40) rfl
          have h970_ := iv_get hv (k := 146) (j := 2) (l := 0) (u := 40) rfl
          have h971_ := iv_get hv (k := 83) (j := 6) (l := 0) (u := 20) rfl
          have h972_ := iv_get hv (k := 146) (j := 49) (l := 0) (u := 20) rfl
          exact lw_op203 E d hd hL y3 hy0 (by omega) hnext a b hv hg0 hg1 hg2 hg3 hg4 hg5 (show a 0 0 = a 146 0 from by omega) (show a 4 6 = a 146 2 from by omega) (show a 83 6 = a 146 49 from by omega)
        ·
          refine jt_ite (fun c973_ => ?_) (fun c973_ => ?_)
          ·
            have h974_ := iv_get hv (k := 0) (j := 0) (l := 0) (u := 1999) rfl
            have h975_ := iv_get hv (k := 146) (j := 0) (l := 0) (u := 1999) rfl
            have h976_ := iv_get hv (k := 4) (j := 6) (l := 0) (u := 40) rfl
            have h977_ := iv_get hv (k := 146) (j := 2) (l := 0) (u := 40) rfl
            have h978_ := iv_get hv (k := 83) (j := 6) (l := 0) (u := 20) rfl
            have h979_ := iv_get hv (k := 146) (j := 49) (l := 0) (u := 20) rfl
            exact lw_op246 E d hd hL y3 hy0 (by omega) hnext a b hv hg0 hg1 hg2 hg3 hg4 hg5 (show a 0 0 = a 146 0 from by omega) (show a 4 6 = a 146 2 from by omega) (show a 83 6 = a 146 49 from by omega)
          ·
            refine jt_ite (fun c980_ => ?_) (fun c980_ => ?_)
            ·
              have h981_ := iv_get hv (k := 0) (j := 0) (l := 0) (u := 1999) rfl
              have h982_ := iv_get hv (k := 146) (j := 0) (l := 0) (u := 1999) rfl
              have h983_ := iv_get hv (k := 4) (j := 6) (l := 0) (u := 40) rfl
              have h984_ := iv_get hv (k := 146) (j := 2) (l := 0) (u := 40) rfl
              have h985_ := iv_get hv (k := 83) (j := 6) (l := 0) (u := 20) rfl
              have h986_ := iv_get hv (k := 146) (j := 49) (l := 0) (u := 20) rfl
              exact lw_op289 E d hd hL y3 hy0 (by omega) hnext a b hv hg0 hg1 hg2 hg3 hg4 hg5 (show a 0 0 = a 146 0 from by omega) (show a 4 6 = a 146 2 from by omega) (show a 83 6 = a 146 49 from by omega)
            ·
              refine jt_ite (fun c987_ => ?_) (fun c987_ => ?_)
              ·
                have h988_ := iv_get hv (k := 0) (j := 0) (l := 0) (u := 1999) rfl
                have h989_ := iv_get hv (k := 146) (j := 0) (l := 0) (u := 1999) rfl
                have h990_ := iv_get hv (k := 4) (j := 6) (l := 0) (u := 40) rfl
                have h991_ := iv_get hv (k := 146) (j := 2) (l := 0) (u := 40) rfl
                have h992_ := iv_get hv (k := 83) (j := 6) (l := 0) (u := 20) rfl
                have h993_ := iv_get hv (k := 146) (j := 49) (l := 0) (u := 20) rfl
                exact lw_op312 E d hd hL y3 hy0 (by omega) hnext a b hv hg0 hg1 hg2 hg3 hg4 hg5 (show a 0 0 = a 146 0 from by omega) (show a 4 6 = a 146 2 from by omega) (show a 83 6 = a 146 49 from by omega)
              ·
                refine jt_ite (fun c994_ => ?_) (fun c994_ => ?_)
                ·
                  have h995_ := iv_get hv (k := 0) (j := 0) (l := 0) (u := 1999) rfl
                  have h996_ := iv_get hv (k := 146) (j := 0) (l := 0) (u := 1999) rfl
                  have h997_ := iv_get hv (k := 4) (j := 6) (l := 0) (u := 40) rfl
                  have h998_ := iv_get hv (k := 146) (j := 2) (l := 0) (u := 40) rfl
                  have h999_ := iv_get hv (k := 83) (j := 6) (l := 0) (u := 20) rfl
                  have h1000_ := iv_get hv (k := 146) (j := 49) (l := 0) (u := 20) rfl
                  exact lw_op375 E d hd hL y3 hy0 (by omega) hnext a b hv hg0 hg1 hg2 hg3 hg4 hg5 (show a 0 0 = a 146 0 from by omega) (show a 4 6 = a 146 2 from by omega) (show a 83 6 = a 146 49 from by omega)
                ·
                  refine jt_ite (fun c1001_ => ?_) (fun c1001_ => ?_)
                  ·
                    have h1002_ := iv_get hv (k := 0) (j := 0) (l := 0) (u := 1999) rfl
                    have h1003_ := iv_get hv (k := 146) (j := 0) (l := 0) (u := 1999) rfl
                    have h1004_ := iv_get hv (k := 4) (j := 6) (l := 0) (u := 40) rfl
                    have h1005_ := iv_get hv (k := 146) (j := 2) (l := 0) (u := 40) rfl
                    have h1006_ := iv_get hv (k := 83) (j := 6) (l := 0) (u := 20) rfl
                    have h1007_ := iv_get hv (k := 146) (j := 49) (l := 0) (u := 20) rfl
                    exact lw_op398 E d hd hL y3 hy0 (by omega) hnext a b hv hg0 hg1 hg2 hg3 hg4 hg5 (show a 0 0 = a 146 0 from by omega) (show a 4 6 = a 146 2 from by omega) (show a 83 6 = a 146 49 from by omega)
                  ·
                    refine jt_ite (fun c1008_ => ?_) (fun c1008_ => ?_)
                    ·
                      have h1009_ := iv_get hv (k := 0) (j := 0) (l := 0) (u := 1999) rfl
                      have h1010_ := iv_get hv (k := 146) (j := 0) (l := 0) (u := 1999) rfl
                      have h1011_ := iv_get hv (k := 4) (j := 6) (l := 0) (u := 40) rfl
                      have h1012_ := iv_get hv (k := 146) (j := 2) (l := 0) (u := 40) rfl
                      have h1013_ := iv_get hv (k := 83) (j := 6) (l := 0) (u := 20) rfl
                      have h1014_ := iv_get hv (k := 146) (j := 49) (l := 0) (u := 20) rfl
                      exact lw_op421 E d hd hL y3 hy0 (by omega) hnext a b hv hg0 hg1 hg2 hg3 hg4 hg5 (show a 0 0 = a 146 0 from by omega) (show a 4 6 = a 146 2 from by omega) (show a 83 6 = a 146 49 from by omega)
                    ·
                      refine jt_ite (fun c1015_ => ?_) (fun c1015_ => ?_)
                      ·
                        have h1016_ := iv_get hv (k := 0) (j := 0) (l := 0) (u := 1999) rfl
                        have h1017_ := iv_get hv (k := 146) (j := 0) (l := 0) (u := 1999) rfl
                        have h1018_ := iv_get hv (k := 4) (j := 6) (l := 0) (u := 40) rfl
                        have h1019_ := iv_get hv (k := 146) (j := 2) (l := 0) (u := 40) rfl
                        have h1020_ := iv_get hv (k := 83) (j := 6) (l := 0) (u := 20) rfl
                        have h1021_ := iv_get hv (k := 146) (j := 49) (l := 0) (u := 20) rfl
                        exact lw_op454 E d hd hL y3 hy0 (by omega) hnext a b hv hg0 hg1 hg2 hg3 hg4 hg5 (show a 0 0 = a 146 0 from by omega) (show a 4 6 = a 146 2 from by omega) (show a 83 6 = a 146 49 from by omega)
                      ·
                        refine jt_ite (fun c1022_ => ?_) (fun c1022_ => ?_)
                        ·
                          have h1023_ := iv_get hv (k := 0) (j := 0) (l := 0) (u := 1999) rfl
                          have h1024_ := iv_get hv (k := 146) (j := 0) (l := 0) (u := 1999) rfl
                          have h1025_ := iv_get hv (k := 4) (j := 6) (l := 0) (u := 40) rfl
                          have h1026_ := iv_get hv (k := 146) (j := 2) (l := 0) (u := 40) rfl
                          have h1027_ := iv_get hv (k := 83) (j := 6) (l := 0) (u := 20) rfl
                          have h1028_ := iv_get hv (k := 146) (j := 49) (l := 0) (u := 20) rfl
                          exact lw_op467 E d hd hL y3 hy0 (by omega) hnext a b hv hg0 hg1 hg2 hg3 hg4 hg5 (show a 0 0 = a 146 0 from by omega) (show a 4 6 = a 146 2 from by omega) (show a 83 6 = a 146 49 from by omega)
                        ·
                          refine jt_ite (fun c1029_ => ?_) (fun c1029_ => ?_)
                          ·
                            have h1030_ := iv_get hv (k := 0) (j := 0) (l := 0) (u := 1999) rfl
                            have h1031_ := iv_get hv (k := 146) (j := 0) (l := 0) (u := 1999) rfl
                            have h1032_ := iv_get hv (k := 4) (j := 6) (l := 0) (u := 40) rfl
                            have h1033_ := iv_get hv (k := 146) (j := 2) (l := 0) (u := 40) rfl
                            have h1034_ := iv_get hv (k := 83) (j := 6) (l := 0) (u := 20) rfl
                            have h1035_ := iv_get hv (k := 146) (j := 49) (l := 0) (u := 20) rfl
                            exact lw_op490 E d hd hL y3 hy0 (by omega) hnext a b hv hg0 hg1 hg2 hg3 hg4 hg5 (show a 0 0 = a 146 0 from by omega) (show a 4 6 = a 146 2 from by omega) (show a 83 6 = a 146 49 from by omega)
                          ·
                            refine jt_ite (fun c1036_ => ?_) (fun c1036_ => ?_)
                            ·
                              have h1037_ := iv_get hv (k := 0) (j := 0) (l := 0) (u := 1999) rfl
                              have h1038_ := iv_get hv (k := 146) (j := 0) (l := 0) (u := 1999) rfl
                              have h1039_ := iv_get hv (k := 4) (j := 6) (l := 0) (u := 40) rfl
                              have h1040_ := iv_get hv (k := 146) (j := 2) (l := 0) (u := 40) rfl
                              have h1041_ := iv_get hv (k := 83) (j := 6) (l := 0) (u := 20) rfl
                              have h1042_ := iv_get hv (k := 146) (j := 49) (l := 0) (u := 20) rfl
                              exact lw_op523 E d hd hL y3 hy0 (by omega) hnext a b hv hg0 hg1 hg2 hg3 hg4 hg5 (show a 0 0 = a 146 0 from by omega) (show a 4 6 = a 146 2 from by omega) (show a 83 6 = a 146 49 from by omega)
                            ·
                              refine jt_ite (fun c1043_ => ?_) (fun c1043_ => ?_)
                              ·
                                have h1044_ := iv_get hv (k := 0) (j := 0) (l := 0) (u := 1999) rfl
                                have h1045_ := iv_get hv (k := 146) (j := 0) (l := 0) (u := 1999) rfl
                                have h1046_ := iv_get hv (k := 4) (j := 6) (l := 0) (u := 40) rfl
                                have h1047_ := iv_get hv (k := 146) (j := 2) (l := 0) (u := 40) rfl
                                have h1048_ := iv_get hv (k := 83) (j := 6) (l := 0) (u := 20) rfl
                                have h1049_ := iv_get hv (k := 146) (j := 49) (l := 0) (u := 20) rfl
                                exact lw_op546 E d hd hL y3 hy0 (by omega) hnext a b hv hg0 hg1 hg2 hg3 hg4 hg5 (show a 0 0 = a 146 0 from by omega) (show a 4 6 = a 146 2 from by omega) (show a 83 6 = a 146 49 from by omega)
                              ·
                                refine jt_ite (fun c1050_ => ?_) (fun c1050_ => ?_)
                                ·
                                  have h1051_ := iv_get hv (k := 0) (j := 0) (l := 0) (u := 1999) rfl
                                  have h1052_ := iv_get hv (k := 146) (j := 0) (l := 0) (u := 1999) rfl
                                  have h1053_ := iv_get hv (k := 4) (j := 6) (l := 0) (u := 40) rfl
                                  have h1054_ := iv_get hv (k := 146) (j := 2) (l := 0) (u := 40) rfl
                                  have h1055_ := iv_get hv (k := 83) (j := 6) (l := 0) (u := 20) rfl
                                  have h1056_ := iv_get hv (k := 146) (j := 49) (l := 0) (u := 20) rfl
                                  exact lw_op559 E d hd hL y3 hy0 (by omega) hnext a b hv hg0 hg1 hg2 hg3 hg4 hg5 (show a 0 0 = a 146 0 from by omega) (show a 4 6 = a 146 2 from by omega) (show a 83 6 = a 146 49 from by omega)
                                ·
                                  refine jt_ite (fun c1057_ => ?_) (fun c1057_ => ?_)
                                  ·
                                    have h1058_ := iv_get hv (k := 0) (j := 0) (l := 0) (u := 1999) rfl
                                    have h1059_ := iv_get hv (k := 146) (j := 0) (l := 0) (u := 1999) rfl
                                    have h1060_ := iv_get hv (k := 4) (j := 6) (l := 0) (u := 40) rfl
                                    have h1061_ := iv_get hv (k := 146) (j := 2) (l := 0) (u := 40) rfl
                                    have h1062_ := iv_get hv (k := 83) (j := 6) (l := 0) (u := 20) rfl
                                    have h1063_ := iv_get hv (k := 146) (j := 49) (l := 0) (u := 20) rfl
                                    exact lw_op592 E d hd hL y3 hy0 (by omega) hnext a b hv hg0 hg1 hg2 hg3 hg4 hg5 (show a 0 0 = a 146 0 from by omega) (show a 4 6 = a 146 2 from by omega) (show a 83 6 = a 146 49 from by omega)
                                  ·
                                    refine jt_ite (fun c1064_ => ?_) (fun c1064_ => ?_)
                                    ·
                                      have h1065_ := iv_get hv (k := 0) (j := 0) (l := 0) (u := 1999) rfl
                                      have h1066_ := iv_get hv (k := 146) (j := 0) (l := 0) (u := 1999) rfl
                                      have h1067_ := iv_get hv (k := 4) (j := 6) (l := 0) (u := 40) rfl
                                      have h1068_ := iv_get hv (k := 146) (j := 2) (l := 0) (u := 40) rfl
                                      have h1069_ := iv_get hv (k := 83) (j := 6) (l := 0) (u := 20) rfl
                                      have h1070_ := iv_get hv (k := 146) (j := 49) (l := 0) (u := 20) rfl
                                      exact lw_op615 E d hd hL y3 hy0 (by omega) hnext a b hv hg0 hg1 hg2 hg3 hg4 hg5 (show a 0 0 = a 146 0 from by omega) (show a 4 6 = a 146 2 from by omega) (show a 83 6 = a 146 49 from by omega)
                                    ·
                                      refine jt_ite (fun c1071_ => ?_) (fun c1071_ => ?_)
                                      ·
                                        have h1072_ := iv_get hv (k := 0) (j := 0) (l := 0) (u := 1999) rfl
                                        have h1073_ := iv_get hv (k := 146) (j := 0) (l := 0) (u := 1999) rfl
                                        have h1074_ := iv_get hv (k := 4) (j := 6) (l := 0) (u := 40) rfl
                                        have h1075_ := iv_get hv (k := 146) (j := 2) (l := 0) (u := 40) rfl
                                        have h1076_ := iv_get hv (k := 83) (j := 6) (l := 0) (u := 20) rfl
                                        have h1077_ := iv_get hv (k := 146) (j := 49) (l := 0) (u := 20) rfl
                                        exact lw_op648 E d hd hL y3 hy0 (by omega) hnext a b hv hg0 hg1 hg2 hg3 hg4 hg5 (show a 0 0 = a 146 0 from by omega) (show a 4 6 = a 146 2 from by omega) (show a 83 6 = a 146 49 from by omega)
                                      ·
                                        refine jt_ite (fun c1078_ => ?_) (fun c1078_ => ?_)
                                        ·
                                          have h1079_ := iv_get hv (k := 0) (j := 0) (l := 0) (u := 1999) rfl
                                          have h1080_ := iv_get hv (k := 146) (j := 0) (l := 0) (u := 1999) rfl
                                          have h1081_ := iv_get hv (k := 4) (j := 6) (l := 0) (u := 40) rfl
                                          have h1082_ := iv_get hv (k := 146) (j := 2) (l := 0) (u := 40) rfl
                                          have h1083_ := iv_get hv (k := 83) (j := 6) (l := 0) (u := 20) rfl
                                          have h1084_ := iv_get hv (k := 146) (j := 49) (l := 0) (u := 20) rfl
                                          exact lw_op691 E d hd hL y3 hy0 (by omega) hnext a b hv hg0 hg1 hg2 hg3 hg4 hg5 (show a 0 0 = a 146 0 from by omega) (show a 4 6 = a 146 2 from by omega) (show a 83 6 = a 146 49 from by omega)
                                        ·
                                          refine jt_ite (fun c1085_ => ?_) (fun c1085_ => ?_)
                                          ·
                                            have h1086_ := iv_get hv (k := 0) (j := 0) (l := 0) (u := 1999) rfl
                                            have h1087_ := iv_get hv (k := 146) (j := 0) (l := 0) (u := 1999) rfl
                                            have h1088_ := iv_get hv (k := 4) (j := 6) (l := 0) (u := 40) rfl
                                            have h1089_ := iv_get hv (k := 146) (j := 2) (l := 0) (u := 40) rfl
                                            have h1090_ := iv_get hv (k := 83) (j := 6) (l := 0) (u := 20) rfl
                                            have h1091_ := iv_get hv (k := 146) (j := 49) (l := 0) (u := 20) rfl
                                            exact lw_op724 E d hd hL y3 hy0 (by omega) hnext a b hv hg0 hg1 hg2 hg3 hg4 hg5 (show a 0 0 = a 146 0 from by omega) (show a 4 6 = a 146 2 from by omega) (show a 83 6 = a 146 49 from by omega)
                                          ·
                                            refine jt_ite (fun c1092_ => ?_) (fun c1092_ => ?_)
                                            ·
                                              have h1093_ := iv_get hv (k := 0) (j := 0) (l := 0) (u := 1999) rfl
                                              have h1094_ := iv_get hv (k := 146) (j := 0) (l := 0) (u := 1999) rfl
                                              have h1095_ := iv_get hv (k := 4) (j := 6) (l := 0) (u := 40) rfl
                                              have h1096_ := iv_get hv (k := 146) (j := 2) (l := 0) (u := 40) rfl
                                              have h1097_ := iv_get hv (k := 83) (j := 6) (l := 0) (u := 20) rfl
                                              have h1098_ := iv_get hv (k := 146) (j := 49) (l := 0) (u := 20) rfl
                                              exact lw_op747 E d hd hL y3 hy0 (by omega) hnext a b hv hg0 hg1 hg2 hg3 hg4 hg5 (show a 0 0 = a 146 0 from by omega) (show a 4 6 = a 146 2 from by omega) (show a 83 6 = a 146 49 from by omega)
                                            ·
                                              refine jt_ite (fun c1099_ => ?_) (fun c1099_ => ?_)
                                              ·
                                                have h1100_ := iv_get hv (k := 0) (j := 0) (l := 0) (u := 1999) rfl
                                                have h1101_ := iv_get hv (k := 146) (j := 0) (l := 0) (u := 1999) rfl
                                                have h1102_ := iv_get hv (k := 4) (j := 6) (l := 0) (u := 40) rfl
                                                have h1103_ := iv_get hv (k := 146) (j := 2) (l := 0) (u := 40) rfl
                                                have h1104_ := iv_get hv (k := 83) (j := 6) (l := 0) (u := 20) rfl
                                                have h1105_ := iv_get hv (k := 146) (j := 49) (l := 0) (u := 20) rfl
                                                exact lw_op790 E d hd hL y3 hy0 (by omega) hnext a b hv hg0 hg1 hg2 hg3 hg4 hg5 (show a 0 0 = a 146 0 from by omega) (show a 4 6 = a 146 2 from by omega) (show a 83 6 = a 146 49 from by omega)
                                              ·
                                                refine jt_ite (fun c1106_ => ?_) (fun c1106_ => ?_)
                                                ·
                                                  have h1107_ := iv_get hv (k := 0) (j := 0) (l := 0) (u := 1999) rfl
                                                  have h1108_ := iv_get hv (k := 146) (j := 0) (l := 0) (u := 1999) rfl
                                                  have h1109_ := iv_get hv (k := 4) (j := 6) (l := 0) (u := 40) rfl
                                                  have h1110_ := iv_get hv (k := 146) (j := 2) (l := 0) (u := 40) rfl
                                                  have h1111_ := iv_get hv (k := 83) (j := 6) (l := 0) (u := 20) rfl
                                                  have h1112_ := iv_get hv (k := 146) (j := 49) (l := 0) (u := 20) rfl
                                                  exact lw_op833 E d hd hL y3 hy0 (by omega) hnext a b hv hg0 hg1 hg2 hg3 hg4 hg5 (show a 0 0 = a 146 0 from by omega) (show a 4 6 = a 146 2 from by omega) (show a 83 6 = a 146 49 from by omega)
                                                ·
                                                  refine jt_ite (fun c1113_ => ?_) (fun c1113_ => ?_)
                                                  ·
                                                    have h1114_ := iv_get hv (k := 0) (j := 0) (l := 0) (u := 1999) rfl
                                                    have h1115_ := iv_get hv (k := 146) (j := 0) (l := 0) (u := 1999) rfl
                                                    have h1116_ := iv_get hv (k := 4) (j := 6) (l := 0) (u := 40) rfl
                                                    have h1117_ := iv_get hv (k := 146) (j := 2) (l := 0) (u := 40) rfl
                                                    have h1118_ := iv_get hv (k := 83) (j := 6) (l := 0) (u := 20) rfl
                                                    have h1119_ := iv_get hv (k := 146) (j := 49) (l := 0) (u := 20) rfl
                                                    exact lw_op856 E d hd hL y3 hy0 (by omega) hnext a b hv hg0 hg1 hg2 hg3 hg4 hg5 (show a 0 0 = a 146 0 from by omega) (show a 4 6 = a 146 2 from by omega) (show a 83 6 = a 146 49 from by omega)
                                                  ·
                                                    refine jt_ite (fun c1120_ => ?_) (fun c1120_ => ?_)
                                                    ·
                                                      have h1121_ := iv_get hv (k := 0) (j := 0) (l := 0) (u := 1999) rfl
                                                      have h1122_ := iv_get hv (k := 146) (j := 0) (l := 0) (u := 1999) rfl
                                                      have h1123_ := iv_get hv (k := 4) (j := 6) (l := 0) (u := 40) rfl
                                                      have h1124_ := iv_get hv (k := 146) (j := 2) (l := 0) (u := 40) rfl
                                                      have h1125_ := iv_get hv (k := 83) (j := 6) (l := 0) (u := 20) rfl
                                                      have h1126_ := iv_get hv (k := 146) (j := 49) (l := 0) (u := 20) rfl
                                                      exact lw_op869 E d hd hL y3 hy0 (by omega) hnext a b hv hg0 hg1 hg2 hg3 hg4 hg5 (show a 0 0 = a 146 0 from by omega) (show a 4 6 = a 146 2 from by omega) (show a 83 6 = a 146 49 from by omega)
                                                    ·
                                                      refine jt_ite (fun c1127_ => ?_) (fun c1127_ => ?_)
                                                      ·
                                                        have h1128_ := iv_get hv (k := 0) (j := 0) (l := 0) (u := 1999) rfl
                                                        have h1129_ := iv_get hv (k := 146) (j := 0) (l := 0) (u := 1999) rfl
                                                        have h1130_ := iv_get hv (k := 4) (j := 6) (l := 0) (u := 40) rfl
                                                        have h1131_ := iv_get hv (k := 146) (j := 2) (l := 0) (u := 40) rfl
                                                        have h1132_ := iv_get hv (k := 83) (j := 6) (l := 0) (u := 20) rfl
                                                        have h1133_ := iv_get hv (k := 146) (j := 49) (l := 0) (u := 20) rfl
                                                        exact lw_op902 E d hd hL y3 hy0 (by omega) hnext a b hv hg0 hg1 hg2 hg3 hg4 hg5 (show a 0 0 = a 146 0 from by omega) (show a 4 6 = a 146 2 from by omega) (show a 83 6 = a 146 49 from by omega)
                                                      ·
                                                        refine jt_ite (fun c1134_ => ?_) (fun c1134_ => ?_)
                                                        ·
                                                          have h1135_ := iv_get hv (k := 0) (j := 0) (l := 0) (u := 1999) rfl
                                                          have h1136_ := iv_get hv (k := 146) (j := 0) (l := 0) (u := 1999) rfl
                                                          have h1137_ := iv_get hv (k := 4) (j := 6) (l := 0) (u := 40) rfl
                                                          have h1138_ := iv_get hv (k := 146) (j := 2) (l := 0) (u := 40) rfl
                                                          have h1139_ := iv_get hv (k := 83) (j := 6) (l := 0) (u := 20) rfl
                                                          have h1140_ := iv_get hv (k := 146) (j := 49) (l := 0) (u := 20) rfl
                                                          exact lw_op925 E d hd hL y3 hy0 (by omega) hnext a b hv hg0 hg1 hg2 hg3 hg4 hg5 (show a 0 0 = a 146 0 from by omega) (show a 4 6 = a 146 2 from by omega) (show a 83 6 = a 146 49 from by omega)
                                                        ·
                                                          refine jt_ite (fun c1141_ => ?_) (fun c1141_ => ?_)
                                                          ·
                                                            have h1142_ := iv_get hv (k := 0) (j := 0) (l := 0) (u := 1999) rfl
                                                            have h1143_ := iv_get hv (k := 146) (j := 0) (l := 0) (u := 1999) rfl
                                                            have h1144_ := iv_get hv (k := 4) (j := 6) (l := 0) (u := 40) rfl
                                                            have h1145_ := iv_get hv (k := 146) (j := 2) (l := 0) (u := 40) rfl
                                                            have h1146_ := iv_get hv (k := 83) (j := 6) (l := 0) (u := 20) rfl
                                                            have h1147_ := iv_get hv (k := 146) (j := 49) (l := 0) (u := 20) rfl
                                                            exact lw_op958 E d hd hL y3 hy0 (by omega) hnext a b hv hg0 hg1 hg2 hg3 hg4 hg5 (show a 0 0 = a 146 0 from by omega) (show a 4 6 = a 146 2 from by omega) (show a 83 6 = a 146 49 from by omega)
                                                          ·
                                                            refine jt_ite (fun c1148_ => ?_) (fun c1148_ => ?_)
                                                            ·
                                                              have h1149_ := iv_get hv (k := 0) (j := 0) (l := 0) (u := 1999) rfl
                                                              have h1150_ := iv_get hv (k := 146) (j := 0) (l := 0) (u := 1999) rfl
                                                              have h1151_ := iv_get hv (k := 4) (j := 6) (l := 0) (u := 40) rfl
                                                              have h1152_ := iv_get hv (k := 146) (j := 2) (l := 0) (u := 40) rfl
                                                              have h1153_ := iv_get hv (k := 83) (j := 6) (l := 0) (u := 20) rfl
                                                              have h1154_ := iv_get hv (k := 146) (j := 49) (l := 0) (u := 20) rfl
                                                              exact lw_op991 E d hd hL y3 hy0 (by omega) hnext a b hv hg0 hg1 hg2 hg3 hg4 hg5 (show a 0 0 = a 146 0 from by omega) (show a 4 6 = a 146 2 from by omega) (show a 83 6 = a 146 49 from by omega)
                                                            ·
                                                              refine jt_ite (fun c1155_ => ?_) (fun c1155_ => ?_)
                                                              ·
                                                                have h1156_ := iv_get hv (k := 0) (j := 0) (l := 0) (u := 1999) rfl
                                                                have h1157_ := iv_get hv (k := 146) (j := 0) (l := 0) (u := 1999) rfl
                                                                have h1158_ := iv_get hv (k := 4) (j := 6) (l := 0) (u := 40) rfl
                                                                have h1159_ := iv_get hv (k := 146) (j := 2) (l := 0) (u := 40) rfl
                                                                have h1160_ := iv_get hv (k := 83) (j := 6) (l := 0) (u := 20) rfl
                                                                have h1161_ := iv_get hv (k := 146) (j := 49) (l := 0) (u := 20) rfl
                                                                exact lw_op1014 E d hd hL y3 hy0 (by omega) hnext a b hv hg0 hg1 hg2 hg3 hg4 hg5 (show a 0 0 = a 146 0 from by omega) (show a 4 6 = a 146 2 from by omega) (show a 83 6 = a 146 49 from by omega)
                                                              ·
                                                                refine jt_ite (fun c1162_ => ?_) (fun c1162_ => ?_)
                                                                ·
                                                                  have h1163_ := iv_get hv (k := 0) (j := 0) (l := 0) (u := 1999) rfl
                                                                  have h1164_ := iv_get hv (k := 146) (j := 0) (l := 0) (u := 1999) rfl
                                                                  have h1165_ := iv_get hv (k := 4) (j := 6) (l := 0) (u := 40) rfl
                                                                  have h1166_ := iv_get hv (k := 146) (j := 2) (l := 0) (u := 40) rfl
                                                                  have h1167_ := iv_get hv (k := 83) (j := 6) (l := 0) (u := 20) rfl
                                                                  have h1168_ := iv_get hv (k := 146) (j := 49) (l := 0) (u := 20) rfl
                                                                  exact lw_op1067 E d hd hL y3 hy0 (by omega) hnext a b hv hg0 hg1 hg2 hg3 hg4 hg5 (show a 0 0 = a 146 0 from by omega) (show a 4 6 = a 146 2 from by omega) (show a 83 6 = a 146 49 from by omega)
                                                                ·
                                                                  refine jt_ite (fun c1169_ => ?_) (fun c1169_ => ?_)
                                                                  ·
                                                                    have h1170_ := iv_get hv (k := 0) (j := 0) (l := 0) (u := 1999) rfl
                                                                    have h1171_ := iv_get hv (k := 146) (j := 0) (l := 0) (u := 1999) rfl
                                                                    have h1172_ := iv_get hv (k := 4) (j := 6) (l := 0) (u := 40) rfl
                                                                    have h1173_ := iv_get hv (k := 146) (j := 2) (l := 0) (u := 40) rfl
                                                                    have h1174_ := iv_get hv (k := 83) (j := 6) (l := 0) (u := 20) rfl
                                                                    have h1175_ := iv_get hv (k := 146) (j := 49) (l := 0) (u := 20) rfl
                                                                    exact lw_op1110 E d hd hL y3 hy0 (by omega) hnext a b hv hg0 hg1 hg2 hg3 hg4 hg5 (show a 0 0 = a 146 0 from by omega) (show a 4 6 = a 146 2 from by omega) (show a 83 6 = a 146 49 from by omega)
                                                                  ·
                                                                    refine jt_ite (fun c1176_ => ?_) (fun c1176_ => ?_)
                                                                    ·
                                                                      have h1177_ := iv_get hv (k := 0) (j := 0) (l := 0) (u := 1999) rfl
                                                                      have h1178_ := iv_get hv (k := 146) (j := 0) (l := 0) (u := 1999) rfl
                                                                      have h1179_ := iv_get hv (k := 4) (j := 6) (l := 0) (u := 40) rfl
                                                                      have h1180_ := iv_get hv (k := 146) (j := 2) (l := 0) (u := 40) rfl
                                                                      have h1181_ := iv_get hv (k := 83) (j := 6) (l := 0) (u := 20) rfl
                                                                      have h1182_ := iv_get hv (k := 146) (j := 49) (l := 0) (u := 20) rfl
                                                                      exact lw_op1143 E d hd hL y3 hy0 (by omega) hnext a b hv hg0 hg1 hg2 hg3 hg4 hg5 (show a 0 0 = a 146 0 from by omega) (show a 4 6 = a 146 2 from by omega) (show a 83 6 = a 146 49 from by omega)
                                                                    ·
                                                                      refine jt_ite (fun c1183_ => ?_) (fun c1183_ => ?_)
                                                                      ·
                                                                        have h1184_ := iv_get hv (k := 0) (j := 0) (l := 0) (u := 1999) rfl
                                                                        have h1185_ := iv_get hv (k := 146) (j := 0) (l := 0) (u := 1999) rfl
                                                                        have h1186_ := iv_get hv (k := 4) (j := 6) (l := 0) (u := 40) rfl
                                                                        have h1187_ := iv_get hv (k := 146) (j := 2) (l := 0) (u := 40) rfl
                                                                        have h1188_ := iv_get hv (k := 83) (j := 6) (l := 0) (u := 20) rfl
                                                                        have h1189_ := iv_get hv (k := 146) (j := 49) (l := 0) (u := 20) rfl
                                                                        exact lw_op1166 E d hd hL y3 hy0 (by omega) hnext a b hv hg0 hg1 hg2 hg3 hg4 hg5 (show a 0 0 = a 146 0 from by omega) (show a 4 6 = a 146 2 from by omega) (show a 83 6 = a 146 49 from by omega)
                                                                      ·
                                                                        exact absurd (by omega : False) id
