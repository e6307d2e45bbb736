theorem jt_bif {c : Bool} {X Y : Option jxR} {Q : List jxV → (Nat → Nat → Int) → (Nat → Nat → Int) → Prop} (hc : c = true) (h : jt X Q) : jt (bif c then X else Y) Q := by
  rw [hc]; exact h
theorem lw_op180 (E : jxE) (d : Nat) (hd : Nat.ble 60 (d + 1) = true) (hL : E.1 ≤ 3072) (y3 : Int) (hy0 : 0 ≤ y3) (hy1 : y3 + 6 ≤ E.1) (hnext : ∀ (a b : Nat → Nat → Int) (hv : iv a) (hg0 : WFW a) (hg1 : SV a) (hg2 : OC a) (hg3 : FO a) (hg4 : FW a) (hg5 : TAPE a) (hg6 : MEMR a) (hg7 : FARR a) (hg8 : WISHR a) (hr0 : a 0 0 = a 146 0) (hr1 : a 4 6 = a 146 2) (hr2 : a 2 1 = a 146 22) (hr3 : a 105 5 = a 146 68), jt (jxX E d 305 1189 [some (.inr (.inr (.inl 3000))), some (.inr (.inr (.inl 0))), some (.inr (.inr (.inl 146))), some (.inl y3)] [] (jxSH, a, b)) (fun v _ _ => v = [.inl 1])) (a b : Nat → Nat → Int) (hv : iv a) (hg0 : WFW a) (hg1 : SV a) (hg2 : OC a) (hg3 : FO a) (hg4 : FW a) (hg5 : TAPE a) (hg6 : MEMR a) (hg7 : FARR a) (hg8 : WISHR a) (hr0 : a 0 0 = a 146 0) (hr1 : a 4 6 = a 146 2) (hr2 : a 2 1 = a 146 22) (hr3 : a 105 5 = a 146 68) : jt (jxX E d 305 180 [some (.inr (.inr (.inl 3000))), some (.inr (.inr (.inl 0))), some (.inr (.inr (.inl 146))), some (.inl y3)] [] (jxSH, a, b)) (fun v _ _ => v = [.inl 1]) := by
  refine jt_eq (bq_law_180 E d y3 a b) ?_
  have h1_ := iv_get hv (k := 0) (j := 0) (l := 0) (u := 1999) rfl
  have h2_ := iv_get hv (k := 146) (j := 0) (l := 0) (u := 1999) rfl
  have h3_ := iv_get hv (k := 4) (j := 6) (l := 0) (u := 40) rfl
  have h4_ := iv_get hv (k := 146) (j := 2) (l := 0) (u := 40) rfl
  have h5_ := iv_get hv (k := 2) (j := 1) (l := 0) (u := 200) rfl
  have h6_ := iv_get hv (k := 146) (j := 22) (l := 0) (u := 200) rfl
  have h7_ := iv_get hv (k := 105) (j := 5) (l := 0) (u := 10) rfl
  have h8_ := iv_get hv (k := 146) (j := 68) (l := 0) (u := 10) rfl
  refine jt_bif (Nat.ble_eq_true_of_le (by omega)) ?_
  have h9_ : jxw (y3 + 1) = y3 + 1 := jxw_id (by omega) (by omega)
  refine jt_grd (by omega) ?_
  refine jt_bI (sp_X11_clock E d (jd_le hd rfl) (E.2 ((jxw (y3 + 1)).toNat)) a b hv) (fun r10_ a10_ b10_ h10_ => ?_)
  obtain ⟨hv10_, hf10_, rfl, hq10_0, hq10_1⟩ := h10_
  have h11_ := iv_get hv10_ (k := 0) (j := 0) (l := 0) (u := 1999) rfl
  refine jt_eq (bq_law_190 E d y3 a10_ b) ?_
  refine jt_bif (Nat.ble_eq_true_of_le (by omega)) ?_
  refine jt_grd (by omega) ?_
  refine jt_bI (sp_X12_clock E d (jd_le hd rfl) (E.2 ((jxw (y3 + 1)).toNat)) a10_ b hv10_) (fun r12_ a12_ b12_ h12_ => ?_)
  obtain ⟨hv12_, hf12_, rfl, hq12_0, hq12_1⟩ := h12_
  have h13_ := iv_get hv10_ (k := 146) (j := 0) (l := 0) (u := 1999) rfl
  have h14_ : a10_ 146 0 = a 146 0 := hf10_ 146 0 rfl
  have h15_ := iv_get hv12_ (k := 146) (j := 0) (l := 0) (u := 1999) rfl
  have h16_ := iv_get hv12_ (k := 0) (j := 0) (l := 0) (u := 1999) rfl
  have h17_ : a12_ 0 0 = a10_ 0 0 := hf12_ 0 0 rfl
  have h18_ := iv_get hv12_ (k := 4) (j := 6) (l := 0) (u := 40) rfl
  have h19_ : a12_ 4 6 = a10_ 4 6 := hf12_ 4 6 rfl
  have h20_ := iv_get hv10_ (k := 4) (j := 6) (l := 0) (u := 40) rfl
  have h21_ : a10_ 4 6 = a 4 6 := hf10_ 4 6 rfl
  have h22_ := iv_get hv12_ (k := 146) (j := 2) (l := 0) (u := 40) rfl
  have h23_ : a12_ 146 2 = a10_ 146 2 := hf12_ 146 2 rfl
  have h24_ := iv_get hv10_ (k := 146) (j := 2) (l := 0) (u := 40) rfl
  have h25_ : a10_ 146 2 = a 146 2 := hf10_ 146 2 rfl
  have h26_ := iv_get hv12_ (k := 2) (j := 1) (l := 0) (u := 200) rfl
  have h27_ : a12_ 2 1 = a10_ 2 1 := hf12_ 2 1 rfl
  have h28_ := iv_get hv10_ (k := 2) (j := 1) (l := 0) (u := 200) rfl
  have h29_ : a10_ 2 1 = a 2 1 := hf10_ 2 1 rfl
  have h30_ := iv_get hv12_ (k := 146) (j := 22) (l := 0) (u := 200) rfl
  have h31_ : a12_ 146 22 = a10_ 146 22 := hf12_ 146 22 rfl
  have h32_ := iv_get hv10_ (k := 146) (j := 22) (l := 0) (u := 200) rfl
  have h33_ : a10_ 146 22 = a 146 22 := hf10_ 146 22 rfl
  have h34_ := iv_get hv12_ (k := 105) (j := 5) (l := 0) (u := 10) rfl
  have h35_ : a12_ 105 5 = a10_ 105 5 := hf12_ 105 5 rfl
  have h36_ := iv_get hv10_ (k := 105) (j := 5) (l := 0) (u := 10) rfl
  have h37_ : a10_ 105 5 = a 105 5 := hf10_ 105 5 rfl
  have h38_ := iv_get hv12_ (k := 146) (j := 68) (l := 0) (u := 10) rfl
  have h39_ : a12_ 146 68 = a10_ 146 68 := hf12_ 146 68 rfl
  have h40_ := iv_get hv10_ (k := 146) (j := 68) (l := 0) (u := 10) rfl
  have h41_ : a10_ 146 68 = a 146 68 := hf10_ 146 68 rfl
  exact hnext a12_ b hv12_ (WFW_fr (WFW_fr hg0 hf10_ (fun _ => rfl) (fun _ => rfl)) hf12_ (fun _ => rfl) (fun _ => rfl)) (SV_fr (SV_fr hg1 hf10_ (fun _ => rfl) (fun _ => rfl)) hf12_ (fun _ => rfl) (fun _ => rfl)) (OC_fr (OC_fr hg2 hf10_ rfl rfl (fun _ => rfl) (fun _ => rfl) (fun _ => rfl) (fun _ => rfl) (fun _ => rfl)) hf12_ rfl rfl (fun _ => rfl) (fun _ => rfl) (fun _ => rfl) (fun _ => rfl) (fun _ => rfl)) (FO_fr (FO_fr hg3 hf10_ rfl rfl (fun _ => rfl)) hf12_ rfl rfl (fun _ => rfl)) (FW_fr (FW_fr hg4 hf10_ rfl (fun _ => rfl)) hf12_ rfl (fun _ => rfl)) (TAPE_fr (TAPE_fr hg5 hf10_ (fun _ => rfl) (fun _ => rfl)) hf12_ (fun _ => rfl) (fun _ => rfl)) (MEMR_fr (MEMR_fr hg6 hf10_ (fun _ => rfl) (fun _ => rfl) (fun _ => rfl) (fun _ => rfl) (fun _ => rfl) (fun _ => rfl) (fun _ => rfl) (fun _ => rfl) (fun _ => rfl) (fun _ => rfl)) hf12_ (fun _ => rfl) (fun _ => rfl) (fun _ => rfl) (fun _ => rfl) (fun _ => rfl) (fun _ => rfl) (fun _ => rfl) (fun _ => rfl) (fun _ => rfl) (fun _ => rfl)) (FARR_fr (FARR_fr hg7 hf10_ (fun _ => rfl) (fun _ => rfl)) hf12_ (fun _ => rfl) (fun _ => rfl)) (WISHR_fr (WISHR_fr hg8 hf10_ (fun _ => rfl) (fun _ => rfl) (fun _ => rfl) (fun _ => rfl)) hf12_ (fun _ => rfl) (fun _ => rfl) (fun _ => rfl) (fun _ => rfl)) (show a12_ 0 0 = a12_ 146 0 from by omega) (show a12_ 4 6 = a12_ 146 2 from by omega) (show a12_ 2 1 = a12_ 146 22 from by omega) (show a12_ 105 5 = a12_ 146 68 from by omega)
theorem lw_op203 (E : jxE) (d : Nat) (hd : Nat.ble 60 (d + 1) = true) (hL : E.1 ≤ 3072) (y3 : Int) (hy0 : 0 ≤ y3) (hy1 : y3 + 6 ≤ E.1) (hnext : ∀ (a b : Nat → Nat → Int) (hv : iv a) (hg0 : WFW a) (hg1 : SV a) (hg2 : OC a) (hg3 : FO a) (hg4 : FW a) (hg5 : TAPE a) (hg6 : MEMR a) (hg7 : FARR a) (hg8 : WISHR a) (hr0 : a 0 0 = a 146 0) (hr1 : a 4 6 = a 146 2) (hr2 : a 2 1 = a 146 22) (hr3 : a 105 5 = a 146 68), jt (jxX E d 305 1189 [some (.inr (.inr (.inl 3000))), some (.inr (.inr (.inl 0))), some (.inr (.inr (.inl 146))), some (.inl y3)] [] (jxSH, a, b)) (fun v _ _ => v = [.inl 1])) (a b : Nat → Nat → Int) (hv : iv a) (hg0 : WFW a) (hg1 : SV a) (hg2 : OC a) (hg3 : FO a) (hg4 : FW a) (hg5 : TAPE a) (hg6 : MEMR a) (hg7 : FARR a) (hg8 : WISHR a) (hr0 : a 0 0 = a 146 0) (hr1 : a 4 6 = a 146 2) (hr2 : a 2 1 = a 146 22) (hr3 : a 105 5 = a 146 68) : jt (jxX E d 305 203 [some (.inr (.inr (.inl 3000))), some (.inr (.inr (.inl 0))), some (.inr (.inr (.inl 146))), some (.inl y3)] [] (jxSH, a, b)) (fun v _ _ => v = [.inl 1]) := by
  refine jt_eq (bq_law_203 E d y3 a b) ?_
  have h42_ := iv_get hv (k := 0) (j := 0) (l := 0) (u := 1999) rfl
  have h43_ := iv_get hv (k := 146) (j := 0) (l := 0) (u := 1999) rfl
  have h44_ := iv_get hv (k := 4) (j := 6) (l := 0) (u := 40) rfl
  have h45_ := iv_get hv (k := 146) (j := 2) (l := 0) (u := 40) rfl
  have h46_ := iv_get hv (k := 2) (j := 1) (l := 0) (u := 200) rfl
  have h47_ := iv_get hv (k := 146) (j := 22) (l := 0) (u := 200) rfl
  have h48_ := iv_get hv (k := 105) (j := 5) (l := 0) (u := 10) rfl
  have h49_ := iv_get hv (k := 146) (j := 68) (l := 0) (u := 10) rfl
  refine jt_bif (Nat.ble_eq_true_of_le (by omega)) ?_
  have h50_ : jxw (y3 + 1) = y3 + 1 := jxw_id (by omega) (by omega)
  refine jt_grd (by omega) ?_
  refine jt_bif (Nat.ble_eq_true_of_le (by omega)) ?_
  have h51_ : jxw (y3 + 2) = y3 + 2 := jxw_id (by omega) (by omega)
  refine jt_grd (by omega) ?_
  refine jt_bif (Nat.ble_eq_true_of_le (by omega)) ?_
  have h52_ : jxw (y3 + 3) = y3 + 3 := jxw_id (by omega) (by omega)
  refine jt_grd (by omega) ?_
  refine jt_bI (sp_X11_far E d (jd_le hd rfl) (E.2 ((jxw (y3 + 1)).toNat)) (E.2 ((jxw (y3 + 2)).toNat)) (E.2 ((jxw (y3 + 3)).toNat)) a b hv) (fun r53_ a53_ b53_ h53_ => ?_)
  obtain ⟨hv53_, hf53_, rfl, hq53_0⟩ := h53_
  refine jt_eq (bq_law_223 E d y3 a53_ b) ?_
  refine jt_bif (Nat.ble_eq_true_of_le (by omega)) ?_
  refine jt_grd (by omega) ?_
  refine jt_bif (Nat.ble_eq_true_of_le (by omega)) ?_
  refine jt_grd (by omega) ?_
  refine jt_bif (Nat.ble_eq_true_of_le (by omega)) ?_
  refine jt_grd (by omega) ?_
  refine jt_bI (sp_X12_far E d (jd_le hd rfl) (E.2 ((jxw (y3 + 1)).toNat)) (E.2 ((jxw (y3 + 2)).toNat)) (E.2 ((jxw (y3 + 3)).toNat)) a53_ b hv53_) (fun r54_ a54_ b54_ h54_ => ?_)
  obtain ⟨hv54_, hf54_, rfl, hq54_0⟩ := h54_
  have hd54 := FarP_det hq53_0 hq54_0 (fun j => by rw [hf53_ 147 j rfl]; exact hg7 j)
  have hF54 : FARR a54_ := fun j => by rw [hf54_ 1 j rfl]; exact hd54.2 j
  refine jt_eq (bq_law_243 E d y3 a54_ b) ?_
  have h55_ := iv_get hv54_ (k := 0) (j := 0) (l := 0) (u := 1999) rfl
  have h56_ : a54_ 0 0 = a53_ 0 0 := hf54_ 0 0 rfl
  have h57_ := iv_get hv53_ (k := 0) (j := 0) (l := 0) (u := 1999) rfl
  have h58_ : a53_ 0 0 = a 0 0 := hf53_ 0 0 rfl
  have h59_ := iv_get hv54_ (k := 146) (j := 0) (l := 0) (u := 1999) rfl
  have h60_ : a54_ 146 0 = a53_ 146 0 := hf54_ 146 0 rfl
  have h61_ := iv_get hv53_ (k := 146) (j := 0) (l := 0) (u := 1999) rfl
  have h62_ : a53_ 146 0 = a 146 0 := hf53_ 146 0 rfl
  have h63_ := iv_get hv54_ (k := 4) (j := 6) (l := 0) (u := 40) rfl
  have h64_ : a54_ 4 6 = a53_ 4 6 := hf54_ 4 6 rfl
  have h65_ := iv_get hv53_ (k := 4) (j := 6) (l := 0) (u := 40) rfl
  have h66_ : a53_ 4 6 = a 4 6 := hf53_ 4 6 rfl
  have h67_ := iv_get hv54_ (k := 146) (j := 2) (l := 0) (u := 40) rfl
  have h68_ : a54_ 146 2 = a53_ 146 2 := hf54_ 146 2 rfl
  have h69_ := iv_get hv53_ (k := 146) (j := 2) (l := 0) (u := 40) rfl
  have h70_ : a53_ 146 2 = a 146 2 := hf53_ 146 2 rfl
  have h71_ := iv_get hv54_ (k := 2) (j := 1) (l := 0) (u := 200) rfl
  have h72_ : a54_ 2 1 = a53_ 2 1 := hf54_ 2 1 rfl
  have h73_ := iv_get hv53_ (k := 2) (j := 1) (l := 0) (u := 200) rfl
  have h74_ : a53_ 2 1 = a 2 1 := hf53_ 2 1 rfl
  have h75_ := iv_get hv54_ (k := 146) (j := 22) (l := 0) (u := 200) rfl
  have h76_ : a54_ 146 22 = a53_ 146 22 := hf54_ 146 22 rfl
  have h77_ := iv_get hv53_ (k := 146) (j := 22) (l := 0) (u := 200) rfl
  have h78_ : a53_ 146 22 = a 146 22 := hf53_ 146 22 rfl
  have h79_ := iv_get hv54_ (k := 105) (j := 5) (l := 0) (u := 10) rfl
  have h80_ : a54_ 105 5 = a53_ 105 5 := hf54_ 105 5 rfl
  have h81_ := iv_get hv53_ (k := 105) (j := 5) (l := 0) (u := 10) rfl
  have h82_ : a53_ 105 5 = a 105 5 := hf53_ 105 5 rfl
  have h83_ := iv_get hv54_ (k := 146) (j := 68) (l := 0) (u := 10) rfl
  have h84_ : a54_ 146 68 = a53_ 146 68 := hf54_ 146 68 rfl
  have h85_ := iv_get hv53_ (k := 146) (j := 68) (l := 0) (u := 10) rfl
  have h86_ : a53_ 146 68 = a 146 68 := hf53_ 146 68 rfl
  exact hnext a54_ b hv54_ (WFW_fr (WFW_fr hg0 hf53_ (fun _ => rfl) (fun _ => rfl)) hf54_ (fun _ => rfl) (fun _ => rfl)) (SV_fr (SV_fr hg1 hf53_ (fun _ => rfl) (fun _ => rfl)) hf54_ (fun _ => rfl) (fun _ => rfl)) (OC_fr (OC_fr hg2 hf53_ rfl rfl (fun _ => rfl) (fun _ => rfl) (fun _ => rfl) (fun _ => rfl) (fun _ => rfl)) hf54_ rfl rfl (fun _ => rfl) (fun _ => rfl) (fun _ => rfl) (fun _ => rfl) (fun _ => rfl)) (FO_fr (FO_fr hg3 hf53_ rfl rfl (fun _ => rfl)) hf54_ rfl rfl (fun _ => rfl)) (FW_fr (FW_fr hg4 hf53_ rfl (fun _ => rfl)) hf54_ rfl (fun _ => rfl)) (TAPE_fr (TAPE_fr hg5 hf53_ (fun _ => rfl) (fun _ => rfl)) hf54_ (fun _ => rfl) (fun _ => rfl)) (MEMR_fr (MEMR_fr hg6 hf53_ (fun _ => rfl) (fun _ => rfl) (fun _ => rfl) (fun _ => rfl) (fun _ => rfl) (fun _ => rfl) (fun _ => rfl) (fun _ => rfl) (fun _ => rfl) (fun _ => rfl)) hf54_ (fun _ => rfl) (fun _ => rfl) (fun _ => rfl) (fun _ => rfl) (fun _ => rfl) (fun _ => rfl) (fun _ => rfl) (fun _ => rfl) (fun _ => rfl) (fun _ => rfl)) hF54 (WISHR_fr (WISHR_fr hg8 hf53_ (fun _ => rfl) (fun _ => rfl) (fun _ => rfl) (fun _ => rfl)) hf54_ (fun _ => rfl) (fun _ => rfl) (fun _ => rfl) (fun _ => rfl)) (show a54_ 0 0 = a54_ 146 0 from by omega) (show a54_ 4 6 = a54_ 146 2 from by omega) (show a54_ 2 1 = a54_ 146 22 from by omega) (show a54_ 105 5 = a54_ 146 68 from by omega)
theorem lw_op246 (E : jxE) (d : Nat) (hd : Nat.ble 60 (d + 1) = true) (hL : E.1 ≤ 3072) (y3 : Int) (hy0 : 0 ≤ y3) (hy1 : y3 + 6 ≤ E.1) (hnext : ∀ (a b : Nat → Nat → Int) (hv : iv a) (hg0 : WFW a) (hg1 : SV a) (hg2 : OC a) (hg3 : FO a) (hg4 : FW a) (hg5 : TAPE a) (hg6 : MEMR a) (hg7 : FARR a) (hg8 : WISHR a) (hr0 : a 0 0 = a 146 0) (hr1 : a 4 6 = a 146 2) (hr2 : a 2 1 = a 146 22) (hr3 : a 105 5 = a 146 68), jt (jxX E d 305 1189 [some (.inr (.inr (.inl 3000))), some (.inr (.inr (.inl 0))), some (.inr (.inr (.inl 146))), some (.inl y3)] [] (jxSH, a, b)) (fun v _ _ => v = [.inl 1])) (a b : Nat → Nat → Int) (hv : iv a) (hg0 : WFW a) (hg1 : SV a) (hg2 : OC a) (hg3 : FO a) (hg4 : FW a) (hg5 : TAPE a) (hg6 : MEMR a) (hg7 : FARR a) (hg8 : WISHR a) (hr0 : a 0 0 = a 146 0) (hr1 : a 4 6 = a 146 2) (hr2 : a 2 1 = a 146 22) (hr3 : a 105 5 = a 146 68) : jt (jxX E d 305 246 [some (.inr (.inr (.inl 3000))), some (.inr (.inr (.inl 0))), some (.inr (.inr (.inl 146))), some (.inl y3)] [] (jxSH, a, b)) (fun v _ _ => v = [.inl 1]) := by
  refine jt_eq (bq_law_246 E d y3 a b) ?_
  have h87_ := iv_get hv (k := 0) (j := 0) (l := 0) (u := 1999) rfl
  have h88_ := iv_get hv (k := 146) (j := 0) (l := 0) (u := 1999) rfl
  have h89_ := iv_get hv (k := 4) (j := 6) (l := 0) (u := 40) rfl
  have h90_ := iv_get hv (k := 146) (j := 2) (l := 0) (u := 40) rfl
  have h91_ := iv_get hv (k := 2) (j := 1) (l := 0) (u := 200) rfl
  have h92_ := iv_get hv (k := 146) (j := 22) (l := 0) (u := 200) rfl
  have h93_ := iv_get hv (k := 105) (j := 5) (l := 0) (u := 10) rfl
  have h94_ := iv_get hv (k := 146) (j := 68) (l := 0) (u := 10) rfl
  refine jt_bif (Nat.ble_eq_true_of_le (by omega)) ?_
  have h95_ : jxw (y3 + 1) = y3 + 1 := jxw_id (by omega) (by omega)
  refine jt_grd (by omega) ?_
  refine jt_bif (Nat.ble_eq_true_of_le (by omega)) ?_
  have h96_ : jxw (y3 + 2) = y3 + 2 := jxw_id (by omega) (by omega)
  refine jt_grd (by omega) ?_
  refine jt_bif (Nat.ble_eq_true_of_le (by omega)) ?_
  have h97_ : jxw (y3 + 3) = y3 + 3 := jxw_id (by omega) (by omega)
  refine jt_grd (by omega) ?_
  refine jt_bI (sp_X11_member E d (jd_le hd rfl) (E.2 ((jxw (y3 + 1)).toNat)) (E.2 ((jxw (y3 + 2)).toNat)) (E.2 ((jxw (y3 + 3)).toNat)) a b hv) (fun r98_ a98_ b98_ h98_ => ?_)
  obtain ⟨hv98_, hf98_, rfl, hq98_0, hq98_1, hq98_2⟩ := h98_
  have h99_ := iv_get hv98_ (k := 4) (j := 6) (l := 0) (u := 40) rfl
  refine jt_eq (bq_law_266 E d y3 a98_ b) ?_
  refine jt_bif (Nat.ble_eq_true_of_le (by omega)) ?_
  refine jt_grd (by omega) ?_
  refine jt_bif (Nat.ble_eq_true_of_le (by omega)) ?_
  refine jt_grd (by omega) ?_
  refine jt_bif (Nat.ble_eq_true_of_le (by omega)) ?_
  refine jt_grd (by omega) ?_
  refine jt_bI (sp_X12_member E d (jd_le hd rfl) (E.2 ((jxw (y3 + 1)).toNat)) (E.2 ((jxw (y3 + 2)).toNat)) (E.2 ((jxw (y3 + 3)).toNat)) a98_ b hv98_) (fun r100_ a100_ b100_ h100_ => ?_)
  obtain ⟨hv100_, hf100_, rfl, hq100_0, hq100_1, hq100_2⟩ := h100_
  have h101_ := iv_get hv98_ (k := 146) (j := 2) (l := 0) (u := 40) rfl
  have h102_ : a98_ 146 2 = a 146 2 := hf98_ 146 2 rfl
  have h103_ := iv_get hv100_ (k := 146) (j := 2) (l := 0) (u := 40) rfl
  have hM100 : MEMR a100_ := MEMR_add hg6 hq98_1 hq98_2 (fun j => ⟨hf98_ 148 j rfl, hf98_ 149 j rfl, hf98_ 150 j rfl, hf98_ 151 j rfl, hf98_ 152 j rfl⟩) hq100_1 hq100_2 (fun j => ⟨hf100_ 5 j rfl, hf100_ 6 j rfl, hf100_ 7 j rfl, hf100_ 8 j rfl, hf100_ 10 j rfl⟩) (by omega) (by rw [hf98_ 146 0 rfl]; exact hr0)
  refine jt_eq (bq_law_286 E d y3 a100_ b) ?_
  have h104_ := iv_get hv100_ (k := 0) (j := 0) (l := 0) (u := 1999) rfl
  have h105_ : a100_ 0 0 = a98_ 0 0 := hf100_ 0 0 rfl
  have h106_ := iv_get hv98_ (k := 0) (j := 0) (l := 0) (u := 1999) rfl
  have h107_ : a98_ 0 0 = a 0 0 := hf98_ 0 0 rfl
  have h108_ := iv_get hv100_ (k := 146) (j := 0) (l := 0) (u := 1999) rfl
  have h109_ : a100_ 146 0 = a98_ 146 0 := hf100_ 146 0 rfl
  have h110_ := iv_get hv98_ (k := 146) (j := 0) (l := 0) (u := 1999) rfl
  have h111_ : a98_ 146 0 = a 146 0 := hf98_ 146 0 rfl
  have h112_ := iv_get hv100_ (k := 4) (j := 6) (l := 0) (u := 40) rfl
  have h113_ : a100_ 4 6 = a98_ 4 6 := hf100_ 4 6 rfl
  have h114_ := iv_get hv100_ (k := 2) (j := 1) (l := 0) (u := 200) rfl
  have h115_ : a100_ 2 1 = a98_ 2 1 := hf100_ 2 1 rfl
  have h116_ := iv_get hv98_ (k := 2) (j := 1) (l := 0) (u := 200) rfl
  have h117_ : a98_ 2 1 = a 2 1 := hf98_ 2 1 rfl
  have h118_ := iv_get hv100_ (k := 146) (j := 22) (l := 0) (u := 200) rfl
  have h119_ : a100_ 146 22 = a98_ 146 22 := hf100_ 146 22 rfl
  have h120_ := iv_get hv98_ (k := 146) (j := 22) (l := 0) (u := 200) rfl
  have h121_ : a98_ 146 22 = a 146 22 := hf98_ 146 22 rfl
  have h122_ := iv_get hv100_ (k := 105) (j := 5) (l := 0) (u := 10) rfl
  have h123_ : a100_ 105 5 = a98_ 105 5 := hf100_ 105 5 rfl
  have h124_ := iv_get hv98_ (k := 105) (j := 5) (l := 0) (u := 10) rfl
  have h125_ : a98_ 105 5 = a 105 5 := hf98_ 105 5 rfl
  have h126_ := iv_get hv100_ (k := 146) (j := 68) (l := 0) (u := 10) rfl
  have h127_ : a100_ 146 68 = a98_ 146 68 := hf100_ 146 68 rfl
  have h128_ := iv_get hv98_ (k := 146) (j := 68) (l := 0) (u := 10) rfl
  have h129_ : a98_ 146 68 = a 146 68 := hf98_ 146 68 rfl
  exact hnext a100_ b hv100_ (WFW_fr (WFW_fr hg0 hf98_ (fun _ => rfl) (fun _ => rfl)) hf100_ (fun _ => rfl) (fun _ => rfl)) (SV_fr (SV_fr hg1 hf98_ (fun _ => rfl) (fun _ => rfl)) hf100_ (fun _ => rfl) (fun _ => rfl)) (OC_fr (OC_fr hg2 hf98_ rfl rfl (fun _ => rfl) (fun _ => rfl) (fun _ => rfl) (fun _ => rfl) (fun _ => rfl)) hf100_ rfl rfl (fun _ => rfl) (fun _ => rfl) (fun _ => rfl) (fun _ => rfl) (fun _ => rfl)) (FO_fr (FO_fr hg3 hf98_ rfl rfl (fun _ => rfl)) hf100_ rfl rfl (fun _ => rfl)) (FW_fr (FW_fr hg4 hf98_ rfl (fun _ => rfl)) hf100_ rfl (fun _ => rfl)) (TAPE_fr (TAPE_fr hg5 hf98_ (fun _ => rfl) (fun _ => rfl)) hf100_ (fun _ => rfl) (fun _ => rfl)) hM100 (FARR_fr (FARR_fr hg7 hf98_ (fun _ => rfl) (fun _ => rfl)) hf100_ (fun _ => rfl) (fun _ => rfl)) (WISHR_fr (WISHR_fr hg8 hf98_ (fun _ => rfl) (fun _ => rfl) (fun _ => rfl) (fun _ => rfl)) hf100_ (fun _ => rfl) (fun _ => rfl) (fun _ => rfl) (fun _ => rfl)) (show a100_ 0 0 = a100_ 146 0 from by omega) (show a100_ 4 6 = a100_ 146 2 from by omega) (show a100_ 2 1 = a100_ 146 22 from by omega) (show a100_ 105 5 = a100_ 146 68 from by omega)
theorem lw_op289 (E : jxE) (d : Nat) (hd : Nat.ble 60 (d + 1) = true) (hL : E.1 ≤ 3072) (y3 : Int) (hy0 : 0 ≤ y3) (hy1 : y3 + 6 ≤ E.1) (hnext : ∀ (a b : Nat → Nat → Int) (hv : iv a) (hg0 : WFW a) (hg1 : SV a) (hg2 : OC a) (hg3 : FO a) (hg4 : FW a) (hg5 : TAPE a) (hg6 : MEMR a) (hg7 : FARR a) (hg8 : WISHR a) (hr0 : a 0 0 = a 146 0) (hr1 : a 4 6 = a 146 2) (hr2 : a 2 1 = a 146 22) (hr3 : a 105 5 = a 146 68), jt (jxX E d 305 1189 [some (.inr (.inr (.inl 3000))), some (.inr (.inr (.inl 0))), some (.inr (.inr (.inl 146))), some (.inl y3)] [] (jxSH, a, b)) (fun v _ _ => v = [.inl 1])) (a b : Nat → Nat → Int) (hv : iv a) (hg0 : WFW a) (hg1 : SV a) (hg2 : OC a) (hg3 : FO a) (hg4 : FW a) (hg5 : TAPE a) (hg6 : MEMR a) (hg7 : FARR a) (hg8 : WISHR a) (hr0 : a 0 0 = a 146 0) (hr1 : a 4 6 = a 146 2) (hr2 : a 2 1 = a 146 22) (hr3 : a 105 5 = a 146 68) : jt (jxX E d 305 289 [some (.inr (.inr (.inl 3000))), some (.inr (.inr (.inl 0))), some (.inr (.inr (.inl 146))), some (.inl y3)] [] (jxSH, a, b)) (fun v _ _ => v = [.inl 1]) := by
  refine jt_eq (bq_law_289 E d y3 a b) ?_
  have h130_ := iv_get hv (k := 0) (j := 0) (l := 0) (u := 1999) rfl
  have h131_ := iv_get hv (k := 146) (j := 0) (l := 0) (u := 1999) rfl
  have h132_ := iv_get hv (k := 4) (j := 6) (l := 0) (u := 40) rfl
  have h133_ := iv_get hv (k := 146) (j := 2) (l := 0) (u := 40) rfl
  have h134_ := iv_get hv (k := 2) (j := 1) (l := 0) (u := 200) rfl
  have h135_ := iv_get hv (k := 146) (j := 22) (l := 0) (u := 200) rfl
  have h136_ := iv_get hv (k := 105) (j := 5) (l := 0) (u := 10) rfl
  have h137_ := iv_get hv (k := 146) (j := 68) (l := 0) (u := 10) rfl
  refine jt_bif (Nat.ble_eq_true_of_le (by omega)) ?_
  have h138_ : jxw (y3 + 1) = y3 + 1 := jxw_id (by omega) (by omega)
  refine jt_grd (by omega) ?_
  refine jt_bI (sp_X11_leave E d (jd_le hd rfl) (E.2 ((jxw (y3 + 1)).toNat)) a b hv) (fun r139_ a139_ b139_ h139_ => ?_)
  obtain ⟨hv139_, hf139_, rfl, hq139_0, hq139_1, hq139_2⟩ := h139_
  refine jt_eq (bq_law_299 E d y3 a139_ b) ?_
  refine jt_bif (Nat.ble_eq_true_of_le (by omega)) ?_
  refine jt_grd (by omega) ?_
  refine jt_bI (sp_X12_leave E d (jd_le hd rfl) (E.2 ((jxw (y3 + 1)).toNat)) a139_ b hv139_ (OC_fr hg2 hf139_ rfl rfl (fun _ => rfl) (fun _ => rfl) (fun _ => rfl) (fun _ => rfl) (fun _ => rfl))) (fun r140_ a140_ b140_ h140_ => ?_)
  obtain ⟨hv140_, hf140_, rfl, hq140_0, hq140_1, hq140_2, hq140_3⟩ := h140_
  have h141_ := iv_get hv139_ (k := 146) (j := 2) (l := 0) (u := 40) rfl
  have h142_ : a139_ 146 2 = a 146 2 := hf139_ 146 2 rfl
  have hM140 : MEMR a140_ := MEMR_lv hg6 hr1 hq139_1 hq139_2 (fun j => ⟨hf139_ 5 j rfl, hf139_ 6 j rfl, hf139_ 7 j rfl, hf139_ 8 j rfl, hf139_ 5 j rfl⟩) (fun j => ⟨hf139_ 148 j rfl, hf139_ 149 j rfl, hf139_ 150 j rfl, hf139_ 151 j rfl, hf139_ 152 j rfl⟩) (hf139_ 146 2 rfl) hq140_2 hq140_3 (fun j => ⟨hf140_ 5 j rfl, hf140_ 6 j rfl, hf140_ 7 j rfl, hf140_ 8 j rfl, hf140_ 10 j rfl⟩) (fun j => ⟨hf140_ 148 j rfl, hf140_ 149 j rfl, hf140_ 150 j rfl, hf140_ 151 j rfl, hf140_ 148 j rfl⟩)
  have h143_ := iv_get hv140_ (k := 0) (j := 0) (l := 0) (u := 1999) rfl
  have h144_ : a140_ 0 0 = a139_ 0 0 := hf140_ 0 0 rfl
  have h145_ := iv_get hv139_ (k := 0) (j := 0) (l := 0) (u := 1999) rfl
  have h146_ : a139_ 0 0 = a 0 0 := hf139_ 0 0 rfl
  have h147_ := iv_get hv140_ (k := 146) (j := 0) (l := 0) (u := 1999) rfl
  have h148_ : a140_ 146 0 = a139_ 146 0 := hf140_ 146 0 rfl
  have h149_ := iv_get hv139_ (k := 146) (j := 0) (l := 0) (u := 1999) rfl
  have h150_ : a139_ 146 0 = a 146 0 := hf139_ 146 0 rfl
  have h151_ := iv_get hv140_ (k := 4) (j := 6) (l := 0) (u := 40) rfl
  have h152_ : a140_ 4 6 = a139_ 4 6 := hf140_ 4 6 rfl
  have h153_ := iv_get hv139_ (k := 4) (j := 6) (l := 0) (u := 40) rfl
  have h154_ : a139_ 4 6 = a 4 6 := hf139_ 4 6 rfl
  have h155_ := iv_get hv140_ (k := 146) (j := 2) (l := 0) (u := 40) rfl
  have h156_ : a140_ 146 2 = a139_ 146 2 := hf140_ 146 2 rfl
  have h157_ := iv_get hv140_ (k := 2) (j := 1) (l := 0) (u := 200) rfl
  have h158_ : a140_ 2 1 = a139_ 2 1 := hf140_ 2 1 rfl
  have h159_ := iv_get hv139_ (k := 2) (j := 1) (l := 0) (u := 200) rfl
  have h160_ : a139_ 2 1 = a 2 1 := hf139_ 2 1 rfl
  have h161_ := iv_get hv140_ (k := 146) (j := 22) (l := 0) (u := 200) rfl
  have h162_ : a140_ 146 22 = a139_ 146 22 := hf140_ 146 22 rfl
  have h163_ := iv_get hv139_ (k := 146) (j := 22) (l := 0) (u := 200) rfl
  have h164_ : a139_ 146 22 = a 146 22 := hf139_ 146 22 rfl
  have h165_ := iv_get hv140_ (k := 105) (j := 5) (l := 0) (u := 10) rfl
  have h166_ : a140_ 105 5 = a139_ 105 5 := hf140_ 105 5 rfl
  have h167_ := iv_get hv139_ (k := 105) (j := 5) (l := 0) (u := 10) rfl
  have h168_ : a139_ 105 5 = a 105 5 := hf139_ 105 5 rfl
  have h169_ := iv_get hv140_ (k := 146) (j := 68) (l := 0) (u := 10) rfl
  have h170_ : a140_ 146 68 = a139_ 146 68 := hf140_ 146 68 rfl
  have h171_ := iv_get hv139_ (k := 146) (j := 68) (l := 0) (u := 10) rfl
  have h172_ : a139_ 146 68 = a 146 68 := hf139_ 146 68 rfl
  exact hnext a140_ b hv140_ (WFW_fr (WFW_fr hg0 hf139_ (fun _ => rfl) (fun _ => rfl)) hf140_ (fun _ => rfl) (fun _ => rfl)) (SV_fr (SV_fr hg1 hf139_ (fun _ => rfl) (fun _ => rfl)) hf140_ (fun _ => rfl) (fun _ => rfl)) hq140_0 (FO_fr (FO_fr hg3 hf139_ rfl rfl (fun _ => rfl)) hf140_ rfl rfl (fun _ => rfl)) (FW_fr (FW_fr hg4 hf139_ rfl (fun _ => rfl)) hf140_ rfl (fun _ => rfl)) (TAPE_fr (TAPE_fr hg5 hf139_ (fun _ => rfl) (fun _ => rfl)) hf140_ (fun _ => rfl) (fun _ => rfl)) hM140 (FARR_fr (FARR_fr hg7 hf139_ (fun _ => rfl) (fun _ => rfl)) hf140_ (fun _ => rfl) (fun _ => rfl)) (WISHR_fr (WISHR_fr hg8 hf139_ (fun _ => rfl) (fun _ => rfl) (fun _ => rfl) (fun _ => rfl)) hf140_ (fun _ => rfl) (fun _ => rfl) (fun _ => rfl) (fun _ => rfl)) (show a140_ 0 0 = a140_ 146 0 from by omega) (show a140_ 4 6 = a140_ 146 2 from by omega) (show a140_ 2 1 = a140_ 146 22 from by omega) (show a140_ 105 5 = a140_ 146 68 from by omega)
theorem lw_op312 (E : jxE) (d : Nat) (hd : Nat.ble 60 (d + 1) = true) (hL : E.1 ≤ 3072) (y3 : Int) (hy0 : 0 ≤ y3) (hy1 : y3 + 6 ≤ E.1) (hnext : ∀ (a b : Nat → Nat → Int) (hv : iv a) (hg0 : WFW a) (hg1 : SV a) (hg2 : OC a) (hg3 : FO a) (hg4 : FW a) (hg5 : TAPE a) (hg6 : MEMR a) (hg7 : FARR a) (hg8 : WISHR a) (hr0 : a 0 0 = a 146 0) (hr1 : a 4 6 = a 146 2) (hr2 : a 2 1 = a 146 22) (hr3 : a 105 5 = a 146 68), jt (jxX E d 305 1189 [some (.inr (.inr (.inl 3000))), some (.inr (.inr (.inl 0))), some (.inr (.inr (.inl 146))), some (.inl y3)] [] (jxSH, a, b)) (fun v _ _ => v = [.inl 1])) (a b : Nat → Nat → Int) (hv : iv a) (hg0 : WFW a) (hg1 : SV a) (hg2 : OC a) (hg3 : FO a) (hg4 : FW a) (hg5 : TAPE a) (hg6 : MEMR a) (hg7 : FARR a) (hg8 : WISHR a) (hr0 : a 0 0 = a 146 0) (hr1 : a 4 6 = a 146 2) (hr2 : a 2 1 = a 146 22) (hr3 : a 105 5 = a 146 68) : jt (jxX E d 305 312 [some (.inr (.inr (.inl 3000))), some (.inr (.inr (.inl 0))), some (.inr (.inr (.inl 146))), some (.inl y3)] [] (jxSH, a, b)) (fun v _ _ => v = [.inl 1]) := by
  refine jt_eq (bq_law_312 E d y3 a b) ?_
  have h173_ := iv_get hv (k := 0) (j := 0) (l := 0) (u := 1999) rfl
  have h174_ := iv_get hv (k := 146) (j := 0) (l := 0) (u := 1999) rfl
  have h175_ := iv_get hv (k := 4) (j := 6) (l := 0) (u := 40) rfl
  have h176_ := iv_get hv (k := 146) (j := 2) (l := 0) (u := 40) rfl
  have h177_ := iv_get hv (k := 2) (j := 1) (l := 0) (u := 200) rfl
  have h178_ := iv_get hv (k := 146) (j := 22) (l := 0) (u := 200) rfl
  have h179_ := iv_get hv (k := 105) (j := 5) (l := 0) (u := 10) rfl
  have h180_ := iv_get hv (k := 146) (j := 68) (l := 0) (u := 10) rfl
  refine jt_bif (Nat.ble_eq_true_of_le (by omega)) ?_
  have h181_ : jxw (y3 + 1) = y3 + 1 := jxw_id (by omega) (by omega)
  refine jt_grd (by omega) ?_
  refine jt_bif (Nat.ble_eq_true_of_le (by omega)) ?_
  have h182_ : jxw (y3 + 2) = y3 + 2 := jxw_id (by omega) (by omega)
  refine jt_grd (by omega) ?_
  refine jt_bif (Nat.ble_eq_true_of_le (by omega)) ?_
  have h183_ : jxw (y3 + 3) = y3 + 3 := jxw_id (by omega) (by omega)
  refine jt_grd (by omega) ?_
  refine jt_bif (Nat.ble_eq_true_of_le (by omega)) ?_
  have h184_ : jxw (y3 + 4) = y3 + 4 := jxw_id (by omega) (by omega)
  refine jt_grd (by omega) ?_
  refine jt_bif (Nat.ble_eq_true_of_le (by omega)) ?_
  have h185_ : jxw (y3 + 5) = y3 + 5 := jxw_id (by omega) (by omega)
  refine jt_grd (by omega) ?_
  refine jt_bI (sp_X11_feed E d (jd_le hd rfl) (E.2 ((jxw (y3 + 1)).toNat)) (E.2 ((jxw (y3 + 2)).toNat)) (E.2 ((jxw (y3 + 3)).toNat)) (E.2 ((jxw (y3 + 4)).toNat)) (E.2 ((jxw (y3 + 5)).toNat)) a b hv) (fun r186_ a186_ b186_ h186_ => ?_)
  obtain ⟨hv186_, hf186_, rfl, hq186_0, hq186_1, hq186_2⟩ := h186_
  have h187_ := iv_get hv186_ (k := 2) (j := 1) (l := 0) (u := 200) rfl
  refine jt_eq (bq_law_342 E d y3 a186_ b) ?_
  refine jt_bif (Nat.ble_eq_true_of_le (by omega)) ?_
  refine jt_grd (by omega) ?_
  refine jt_bif (Nat.ble_eq_true_of_le (by omega)) ?_
  refine jt_grd (by omega) ?_
  refine jt_bif (Nat.ble_eq_true_of_le (by omega)) ?_
  refine jt_grd (by omega) ?_
  refine jt_bif (Nat.ble_eq_true_of_le (by omega)) ?_
  refine jt_grd (by omega) ?_
  refine jt_bif (Nat.ble_eq_true_of_le (by omega)) ?_
  refine jt_grd (by omega) ?_
  refine jt_bI (sp_X12_feed E d (jd_le hd rfl) (E.2 ((jxw (y3 + 1)).toNat)) (E.2 ((jxw (y3 + 2)).toNat)) (E.2 ((jxw (y3 + 3)).toNat)) (E.2 ((jxw (y3 + 4)).toNat)) (E.2 ((jxw (y3 + 5)).toNat)) a186_ b hv186_) (fun r188_ a188_ b188_ h188_ => ?_)
  obtain ⟨hv188_, hf188_, rfl, hq188_0, hq188_1, hq188_2⟩ := h188_
  have h189_ := iv_get hv186_ (k := 146) (j := 22) (l := 0) (u := 200) rfl
  have h190_ : a186_ 146 22 = a 146 22 := hf186_ 146 22 rfl
  have h191_ := iv_get hv188_ (k := 146) (j := 22) (l := 0) (u := 200) rfl
  have hT188 : TAPE a188_ := TAPE_feed hg5 hr2 hq186_1 hq186_2 (fun j => hf186_ 164 j rfl) (hf186_ 146 22 rfl) hq188_1 hq188_2 (fun j => hf188_ 3 j rfl)
  refine jt_eq (bq_law_372 E d y3 a188_ b) ?_
  have h192_ := iv_get hv188_ (k := 0) (j := 0) (l := 0) (u := 1999) rfl
  have h193_ : a188_ 0 0 = a186_ 0 0 := hf188_ 0 0 rfl
  have h194_ := iv_get hv186_ (k := 0) (j := 0) (l := 0) (u := 1999) rfl
  have h195_ : a186_ 0 0 = a 0 0 := hf186_ 0 0 rfl
  have h196_ := iv_get hv188_ (k := 146) (j := 0) (l := 0) (u := 1999) rfl
  have h197_ : a188_ 146 0 = a186_ 146 0 := hf188_ 146 0 rfl
  have h198_ := iv_get hv186_ (k := 146) (j := 0) (l := 0) (u := 1999) rfl
  have h199_ : a186_ 146 0 = a 146 0 := hf186_ 146 0 rfl
  have h200_ := iv_get hv188_ (k := 4) (j := 6) (l := 0) (u := 40) rfl
  have h201_ : a188_ 4 6 = a186_ 4 6 := hf188_ 4 6 rfl
  have h202_ := iv_get hv186_ (k := 4) (j := 6) (l := 0) (u := 40) rfl
  have h203_ : a186_ 4 6 = a 4 6 := hf186_ 4 6 rfl
  have h204_ := iv_get hv188_ (k := 146) (j := 2) (l := 0) (u := 40) rfl
  have h205_ : a188_ 146 2 = a186_ 146 2 := hf188_ 146 2 rfl
  have h206_ := iv_get hv186_ (k := 146) (j := 2) (l := 0) (u := 40) rfl
  have h207_ : a186_ 146 2 = a 146 2 := hf186_ 146 2 rfl
  have h208_ := iv_get hv188_ (k := 2) (j := 1) (l := 0) (u := 200) rfl
  have h209_ : a188_ 2 1 = a186_ 2 1 := hf188_ 2 1 rfl
  have h210_ := iv_get hv188_ (k := 105) (j := 5) (l := 0) (u := 10) rfl
  have h211_ : a188_ 105 5 = a186_ 105 5 := hf188_ 105 5 rfl
  have h212_ := iv_get hv186_ (k := 105) (j := 5) (l := 0) (u := 10) rfl
  have h213_ : a186_ 105 5 = a 105 5 := hf186_ 105 5 rfl
  have h214_ := iv_get hv188_ (k := 146) (j := 68) (l := 0) (u := 10) rfl
  have h215_ : a188_ 146 68 = a186_ 146 68 := hf188_ 146 68 rfl
  have h216_ := iv_get hv186_ (k := 146) (j := 68) (l := 0) (u := 10) rfl
  have h217_ : a186_ 146 68 = a 146 68 := hf186_ 146 68 rfl
  exact hnext a188_ b hv188_ (WFW_fr (WFW_fr hg0 hf186_ (fun _ => rfl) (fun _ => rfl)) hf188_ (fun _ => rfl) (fun _ => rfl)) (SV_fr (SV_fr hg1 hf186_ (fun _ => rfl) (fun _ => rfl)) hf188_ (fun _ => rfl) (fun _ => rfl)) (OC_fr (OC_fr hg2 hf186_ rfl rfl (fun _ => rfl) (fun _ => rfl) (fun _ => rfl) (fun _ => rfl) (fun _ => rfl)) hf188_ rfl rfl (fun _ => rfl) (fun _ => rfl) (fun _ => rfl) (fun _ => rfl) (fun _ => rfl)) (FO_fr (FO_fr hg3 hf186_ rfl rfl (fun _ => rfl)) hf188_ rfl rfl (fun _ => rfl)) (FW_fr (FW_fr hg4 hf186_ rfl (fun _ => rfl)) hf188_ rfl (fun _ => rfl)) hT188 (MEMR_fr (MEMR_fr hg6 hf186_ (fun _ => rfl) (fun _ => rfl) (fun _ => rfl) (fun _ => rfl) (fun _ => rfl) (fun _ => rfl) (fun _ => rfl) (fun _ => rfl) (fun _ => rfl) (fun _ => rfl)) hf188_ (fun _ => rfl) (fun _ => rfl) (fun _ => rfl) (fun _ => rfl) (fun _ => rfl) (fun _ => rfl) (fun _ => rfl) (fun _ => rfl) (fun _ => rfl) (fun _ => rfl)) (FARR_fr (FARR_fr hg7 hf186_ (fun _ => rfl) (fun _ => rfl)) hf188_ (fun _ => rfl) (fun _ => rfl)) (WISHR_fr (WISHR_fr hg8 hf186_ (fun _ => rfl) (fun _ => rfl) (fun _ => rfl) (fun _ => rfl)) hf188_ (fun _ => rfl) (fun _ => rfl) (fun _ => rfl) (fun _ => rfl)) (show a188_ 0 0 = a188_ 146 0 from by omega) (show a188_ 4 6 = a188_ 146 2 from by omega) (show a188_ 2 1 = a188_ 146 22 from by omega) (show a188_ 105 5 = a188_ 146 68 from by omega)
theorem lw_op375 (E : jxE) (d : Nat) (hd : Nat.ble 60 (d + 1) = true) (hL : E.1 ≤ 3072) (y3 : Int) (hy0 : 0 ≤ y3) (hy1 : y3 + 6 ≤ E.1) (hnext : ∀ (a b : Nat → Nat → Int) (hv : iv a) (hg0 : WFW a) (hg1 : SV a) (hg2 : OC a) (hg3 : FO a) (hg4 : FW a) (hg5 : TAPE a) (hg6 : MEMR a) (hg7 : FARR a) (hg8 : WISHR a) (hr0 : a 0 0 = a 146 0) (hr1 : a 4 6 = a 146 2) (hr2 : a 2 1 = a 146 22) (hr3 : a 105 5 = a 146 68), jt (jxX E d 305 1189 [some (.inr (.inr (.inl 3000))), some (.inr (.inr (.inl 0))), some (.inr (.inr (.inl 146))), some (.inl y3)] [] (jxSH, a, b)) (fun v _ _ => v = [.inl 1])) (a b : Nat → Nat → Int) (hv : iv a) (hg0 : WFW a) (hg1 : SV a) (hg2 : OC a) (hg3 : FO a) (hg4 : FW a) (hg5 : TAPE a) (hg6 : MEMR a) (hg7 : FARR a) (hg8 : WISHR a) (hr0 : a 0 0 = a 146 0) (hr1 : a 4 6 = a 146 2) (hr2 : a 2 1 = a 146 22) (hr3 : a 105 5 = a 146 68) : jt (jxX E d 305 375 [some (.inr (.inr (.inl 3000))), some (.inr (.inr (.inl 0))), some (.inr (.inr (.inl 146))), some (.inl y3)] [] (jxSH, a, b)) (fun v _ _ => v = [.inl 1]) := by
  refine jt_eq (bq_law_375 E d y3 a b) ?_
  have h218_ := iv_get hv (k := 0) (j := 0) (l := 0) (u := 1999) rfl
  have h219_ := iv_get hv (k := 146) (j := 0) (l := 0) (u := 1999) rfl
  have h220_ := iv_get hv (k := 4) (j := 6) (l := 0) (u := 40) rfl
  have h221_ := iv_get hv (k := 146) (j := 2) (l := 0) (u := 40) rfl
  have h222_ := iv_get hv (k := 2) (j := 1) (l := 0) (u := 200) rfl
  have h223_ := iv_get hv (k := 146) (j := 22) (l := 0) (u := 200) rfl
  have h224_ := iv_get hv (k := 105) (j := 5) (l := 0) (u := 10) rfl
  have h225_ := iv_get hv (k := 146) (j := 68) (l := 0) (u := 10) rfl
  refine jt_bif (Nat.ble_eq_true_of_le (by omega)) ?_
  have h226_ : jxw (y3 + 1) = y3 + 1 := jxw_id (by omega) (by omega)
  refine jt_grd (by omega) ?_
  refine jt_bI (sp_X11_end E d (jd_le hd rfl) (E.2 ((jxw (y3 + 1)).toNat)) a b hv) (fun r227_ a227_ b227_ h227_ => ?_)
  obtain ⟨hv227_, hf227_, rfl, hq227_0⟩ := h227_
  have h228_ := iv_get hv227_ (k := 2) (j := 1) (l := 0) (u := 200) rfl
  refine jt_eq (bq_law_385 E d y3 a227_ b) ?_
  refine jt_bif (Nat.ble_eq_true_of_le (by omega)) ?_
  refine jt_grd (by omega) ?_
  refine jt_bI (sp_X12_end E d (jd_le hd rfl) (E.2 ((jxw (y3 + 1)).toNat)) a227_ b hv227_) (fun r229_ a229_ b229_ h229_ => ?_)
  obtain ⟨hv229_, hf229_, rfl, hq229_0⟩ := h229_
  have h230_ := iv_get hv227_ (k := 146) (j := 22) (l := 0) (u := 200) rfl
  have h231_ : a227_ 146 22 = a 146 22 := hf227_ 146 22 rfl
  have h232_ := iv_get hv229_ (k := 146) (j := 22) (l := 0) (u := 200) rfl
  have h233_ := iv_get hv229_ (k := 0) (j := 0) (l := 0) (u := 1999) rfl
  have h234_ : a229_ 0 0 = a227_ 0 0 := hf229_ 0 0 rfl
  have h235_ := iv_get hv227_ (k := 0) (j := 0) (l := 0) (u := 1999) rfl
  have h236_ : a227_ 0 0 = a 0 0 := hf227_ 0 0 rfl
  have h237_ := iv_get hv229_ (k := 146) (j := 0) (l := 0) (u := 1999) rfl
  have h238_ : a229_ 146 0 = a227_ 146 0 := hf229_ 146 0 rfl
  have h239_ := iv_get hv227_ (k := 146) (j := 0) (l := 0) (u := 1999) rfl
  have h240_ : a227_ 146 0 = a 146 0 := hf227_ 146 0 rfl
  have h241_ := iv_get hv229_ (k := 4) (j := 6) (l := 0) (u := 40) rfl
  have h242_ : a229_ 4 6 = a227_ 4 6 := hf229_ 4 6 rfl
  have h243_ := iv_get hv227_ (k := 4) (j := 6) (l := 0) (u := 40) rfl
  have h244_ : a227_ 4 6 = a 4 6 := hf227_ 4 6 rfl
  have h245_ := iv_get hv229_ (k := 146) (j := 2) (l := 0) (u := 40) rfl
  have h246_ : a229_ 146 2 = a227_ 146 2 := hf229_ 146 2 rfl
  have h247_ := iv_get hv227_ (k := 146) (j := 2) (l := 0) (u := 40) rfl
  have h248_ : a227_ 146 2 = a 146 2 := hf227_ 146 2 rfl
  have h249_ := iv_get hv229_ (k := 2) (j := 1) (l := 0) (u := 200) rfl
  have h250_ : a229_ 2 1 = a227_ 2 1 := hf229_ 2 1 rfl
  have h251_ := iv_get hv229_ (k := 105) (j := 5) (l := 0) (u := 10) rfl
  have h252_ : a229_ 105 5 = a227_ 105 5 := hf229_ 105 5 rfl
  have h253_ := iv_get hv227_ (k := 105) (j := 5) (l := 0) (u := 10) rfl
  have h254_ : a227_ 105 5 = a 105 5 := hf227_ 105 5 rfl
  have h255_ := iv_get hv229_ (k := 146) (j := 68) (l := 0) (u := 10) rfl
  have h256_ : a229_ 146 68 = a227_ 146 68 := hf229_ 146 68 rfl
  have h257_ := iv_get hv227_ (k := 146) (j := 68) (l := 0) (u := 10) rfl
  have h258_ : a227_ 146 68 = a 146 68 := hf227_ 146 68 rfl
  exact hnext a229_ b hv229_ (WFW_fr (WFW_fr hg0 hf227_ (fun _ => rfl) (fun _ => rfl)) hf229_ (fun _ => rfl) (fun _ => rfl)) (SV_fr (SV_fr hg1 hf227_ (fun _ => rfl) (fun _ => rfl)) hf229_ (fun _ => rfl) (fun _ => rfl)) (OC_fr (OC_fr hg2 hf227_ rfl rfl (fun _ => rfl) (fun _ => rfl) (fun _ => rfl) (fun _ => rfl) (fun _ => rfl)) hf229_ rfl rfl (fun _ => rfl) (fun _ => rfl) (fun _ => rfl) (fun _ => rfl) (fun _ => rfl)) (FO_fr (FO_fr hg3 hf227_ rfl rfl (fun _ => rfl)) hf229_ rfl rfl (fun _ => rfl)) (FW_fr (FW_fr hg4 hf227_ rfl (fun _ => rfl)) hf229_ rfl (fun _ => rfl)) (TAPE_fr (TAPE_fr hg5 hf227_ (fun _ => rfl) (fun _ => rfl)) hf229_ (fun _ => rfl) (fun _ => rfl)) (MEMR_fr (MEMR_fr hg6 hf227_ (fun _ => rfl) (fun _ => rfl) (fun _ => rfl) (fun _ => rfl) (fun _ => rfl) (fun _ => rfl) (fun _ => rfl) (fun _ => rfl) (fun _ => rfl) (fun _ => rfl)) hf229_ (fun _ => rfl) (fun _ => rfl) (fun _ => rfl) (fun _ => rfl) (fun _ => rfl) (fun _ => rfl) (fun _ => rfl) (fun _ => rfl) (fun _ => rfl) (fun _ => rfl)) (FARR_fr (FARR_fr hg7 hf227_ (fun _ => rfl) (fun _ => rfl)) hf229_ (fun _ => rfl) (fun _ => rfl)) (WISHR_fr (WISHR_fr hg8 hf227_ (fun _ => rfl) (fun _ => rfl) (fun _ => rfl) (fun _ => rfl)) hf229_ (fun _ => rfl) (fun _ => rfl) (fun _ => rfl) (fun _ => rfl)) (show a229_ 0 0 = a229_ 146 0 from by omega) (show a229_ 4 6 = a229_ 146 2 from by omega) (show a229_ 2 1 = a229_ 146 22 from by omega) (show a229_ 105 5 = a229_ 146 68 from by omega)
theorem lw_op398 (E : jxE) (d : Nat) (hd : Nat.ble 60 (d + 1) = true) (hL : E.1 ≤ 3072) (y3 : Int) (hy0 : 0 ≤ y3) (hy1 : y3 + 6 ≤ E.1) (hnext : ∀ (a b : Nat → Nat → Int) (hv : iv a) (hg0 : WFW a) (hg1 : SV a) (hg2 : OC a) (hg3 : FO a) (hg4 : FW a) (hg5 : TAPE a) (hg6 : MEMR a) (hg7 : FARR a) (hg8 : WISHR a) (hr0 : a 0 0 = a 146 0) (hr1 : a 4 6 = a 146 2) (hr2 : a 2 1 = a 146 22) (hr3 : a 105 5 = a 146 68), jt (jxX E d 305 1189 [some (.inr (.inr (.inl 3000))), some (.inr (.inr (.inl 0))), some (.inr (.inr (.inl 146))), some (.inl y3)] [] (jxSH, a, b)) (fun v _ _ => v = [.inl 1])) (a b : Nat → Nat → Int) (hv : iv a) (hg0 : WFW a) (hg1 : SV a) (hg2 : OC a) (hg3 : FO a) (hg4 : FW a) (hg5 : TAPE a) (hg6 : MEMR a) (hg7 : FARR a) (hg8 : WISHR a) (hr0 : a 0 0 = a 146 0) (hr1 : a 4 6 = a 146 2) (hr2 : a 2 1 = a 146 22) (hr3 : a 105 5 = a 146 68) : jt (jxX E d 305 398 [some (.inr (.inr (.inl 3000))), some (.inr (.inr (.inl 0))), some (.inr (.inr (.inl 146))), some (.inl y3)] [] (jxSH, a, b)) (fun v _ _ => v = [.inl 1]) := by
  refine jt_eq (bq_law_398 E d y3 a b) ?_
  have h259_ := iv_get hv (k := 0) (j := 0) (l := 0) (u := 1999) rfl
  have h260_ := iv_get hv (k := 146) (j := 0) (l := 0) (u := 1999) rfl
  have h261_ := iv_get hv (k := 4) (j := 6) (l := 0) (u := 40) rfl
  have h262_ := iv_get hv (k := 146) (j := 2) (l := 0) (u := 40) rfl
  have h263_ := iv_get hv (k := 2) (j := 1) (l := 0) (u := 200) rfl
  have h264_ := iv_get hv (k := 146) (j := 22) (l := 0) (u := 200) rfl
  have h265_ := iv_get hv (k := 105) (j := 5) (l := 0) (u := 10) rfl
  have h266_ := iv_get hv (k := 146) (j := 68) (l := 0) (u := 10) rfl
  refine jt_bif (Nat.ble_eq_true_of_le (by omega)) ?_
  have h267_ : jxw (y3 + 1) = y3 + 1 := jxw_id (by omega) (by omega)
  refine jt_grd (by omega) ?_
  refine jt_bI (sp_X11_wish E d (jd_le hd rfl) (E.2 ((jxw (y3 + 1)).toNat)) a b hv) (fun r268_ a268_ b268_ h268_ => ?_)
  obtain ⟨hv268_, hf268_, rfl, hq268_0, hq268_1, hq268_2, hq268_3, hq268_4, hq268_5⟩ := h268_
  have h269_ := iv_get hv268_ (k := 2) (j := 1) (l := 0) (u := 200) rfl
  refine jt_eq (bq_law_408 E d y3 a268_ b) ?_
  refine jt_bif (Nat.ble_eq_true_of_le (by omega)) ?_
  refine jt_grd (by omega) ?_
  refine jt_bI (sp_X12_wish E d (jd_le hd rfl) (E.2 ((jxw (y3 + 1)).toNat)) a268_ b hv268_ (WFW_fr hg0 hf268_ (fun _ => rfl) (fun _ => rfl))) (fun r270_ a270_ b270_ h270_ => ?_)
  obtain ⟨hv270_, hf270_, rfl, hq270_0, hq270_1, hq270_2, hq270_3, hq270_4, hq270_5, hq270_6⟩ := h270_
  have h271_ := iv_get hv268_ (k := 146) (j := 2) (l := 0) (u := 40) rfl
  have h272_ : a268_ 146 2 = a 146 2 := hf268_ 146 2 rfl
  have h273_ := iv_get hv268_ (k := 146) (j := 22) (l := 0) (u := 200) rfl
  have h274_ : a268_ 146 22 = a 146 22 := hf268_ 146 22 rfl
  have h275_ := iv_get hv270_ (k := 146) (j := 22) (l := 0) (u := 200) rfl
  have hW270 : WISHR a270_ := WISH_law hg8 hg5 hr2 hr1 (iv_get hv (k := 4) (j := 6) (l := 0) (u := 40) rfl).2 hq268_5 hq270_6 ⟨fun j => hf268_ 166 j rfl, fun j => hf268_ 167 j rfl⟩ (fun j => hf268_ 164 j rfl) (hf268_ 146 22 rfl) (hf268_ 146 2 rfl) ⟨fun j => hf270_ 12 j rfl, fun j => hf270_ 53 j rfl⟩ (fun j => (iv_get hv (k := 53) (j := j) (l := 0) (u := 40) rfl).2) (fun j => (iv_get hv (k := 167) (j := j) (l := 0) (u := 64) rfl).2)
  have h276_ := iv_get hv270_ (k := 0) (j := 0) (l := 0) (u := 1999) rfl
  have h277_ : a270_ 0 0 = a268_ 0 0 := hf270_ 0 0 rfl
  have h278_ := iv_get hv268_ (k := 0) (j := 0) (l := 0) (u := 1999) rfl
  have h279_ : a268_ 0 0 = a 0 0 := hf268_ 0 0 rfl
  have h280_ := iv_get hv270_ (k := 146) (j := 0) (l := 0) (u := 1999) rfl
  have h281_ : a270_ 146 0 = a268_ 146 0 := hf270_ 146 0 rfl
  have h282_ := iv_get hv268_ (k := 146) (j := 0) (l := 0) (u := 1999) rfl
  have h283_ : a268_ 146 0 = a 146 0 := hf268_ 146 0 rfl
  have h284_ := iv_get hv270_ (k := 4) (j := 6) (l := 0) (u := 40) rfl
  have h285_ : a270_ 4 6 = a268_ 4 6 := hf270_ 4 6 rfl
  have h286_ := iv_get hv268_ (k := 4) (j := 6) (l := 0) (u := 40) rfl
  have h287_ : a268_ 4 6 = a 4 6 := hf268_ 4 6 rfl
  have h288_ := iv_get hv270_ (k := 146) (j := 2) (l := 0) (u := 40) rfl
  have h289_ : a270_ 146 2 = a268_ 146 2 := hf270_ 146 2 rfl
  have h290_ := iv_get hv270_ (k := 2) (j := 1) (l := 0) (u := 200) rfl
  have h291_ : a270_ 2 1 = a268_ 2 1 := hf270_ 2 1 rfl
  have h292_ := iv_get hv270_ (k := 105) (j := 5) (l := 0) (u := 10) rfl
  have h293_ : a270_ 105 5 = a268_ 105 5 := hf270_ 105 5 rfl
  have h294_ := iv_get hv268_ (k := 105) (j := 5) (l := 0) (u := 10) rfl
  have h295_ : a268_ 105 5 = a 105 5 := hf268_ 105 5 rfl
  have h296_ := iv_get hv270_ (k := 146) (j := 68) (l := 0) (u := 10) rfl
  have h297_ : a270_ 146 68 = a268_ 146 68 := hf270_ 146 68 rfl
  have h298_ := iv_get hv268_ (k := 146) (j := 68) (l := 0) (u := 10) rfl
  have h299_ : a268_ 146 68 = a 146 68 := hf268_ 146 68 rfl
  exact hnext a270_ b hv270_ hq270_0 (SV_fr (SV_fr hg1 hf268_ (fun _ => rfl) (fun _ => rfl)) hf270_ (fun _ => rfl) (fun _ => rfl)) (OC_fr (OC_fr hg2 hf268_ rfl rfl (fun _ => rfl) (fun _ => rfl) (fun _ => rfl) (fun _ => rfl) (fun _ => rfl)) hf270_ rfl rfl (fun _ => rfl) (fun _ => rfl) (fun _ => rfl) (fun _ => rfl) (fun _ => rfl)) (FO_fr (FO_fr hg3 hf268_ rfl rfl (fun _ => rfl)) hf270_ rfl rfl (fun _ => rfl)) (FW_fr (FW_fr hg4 hf268_ rfl (fun _ => rfl)) hf270_ rfl (fun _ => rfl)) (TAPE_fr (TAPE_fr hg5 hf268_ (fun _ => rfl) (fun _ => rfl)) hf270_ (fun _ => rfl) (fun _ => rfl)) (MEMR_fr (MEMR_fr hg6 hf268_ (fun _ => rfl) (fun _ => rfl) (fun _ => rfl) (fun _ => rfl) (fun _ => rfl) (fun _ => rfl) (fun _ => rfl) (fun _ => rfl) (fun _ => rfl) (fun _ => rfl)) hf270_ (fun _ => rfl) (fun _ => rfl) (fun _ => rfl) (fun _ => rfl) (fun _ => rfl) (fun _ => rfl) (fun _ => rfl) (fun _ => rfl) (fun _ => rfl) (fun _ => rfl)) (FARR_fr (FARR_fr hg7 hf268_ (fun _ => rfl) (fun _ => rfl)) hf270_ (fun _ => rfl) (fun _ => rfl)) hW270 (show a270_ 0 0 = a270_ 146 0 from by omega) (show a270_ 4 6 = a270_ 146 2 from by omega) (show a270_ 2 1 = a270_ 146 22 from by omega) (show a270_ 105 5 = a270_ 146 68 from by omega)
theorem lw_op421 (E : jxE) (d : Nat) (hd : Nat.ble 60 (d + 1) = true) (hL : E.1 ≤ 3072) (y3 : Int) (hy0 : 0 ≤ y3) (hy1 : y3 + 6 ≤ E.1) (hnext : ∀ (a b : Nat → Nat → Int) (hv : iv a) (hg0 : WFW a) (hg1 : SV a) (hg2 : OC a) (hg3 : FO a) (hg4 : FW a) (hg5 : TAPE a) (hg6 : MEMR a) (hg7 : FARR a) (hg8 : WISHR a) (hr0 : a 0 0 = a 146 0) (hr1 : a 4 6 = a 146 2) (hr2 : a 2 1 = a 146 22) (hr3 : a 105 5 = a 146 68), jt (jxX E d 305 1189 [some (.inr (.inr (.inl 3000))), some (.inr (.inr (.inl 0))), some (.inr (.inr (.inl 146))), some (.inl y3)] [] (jxSH, a, b)) (fun v _ _ => v = [.inl 1])) (a b : Nat → Nat → Int) (hv : iv a) (hg0 : WFW a) (hg1 : SV a) (hg2 : OC a) (hg3 : FO a) (hg4 : FW a) (hg5 : TAPE a) (hg6 : MEMR a) (hg7 : FARR a) (hg8 : WISHR a) (hr0 : a 0 0 = a 146 0) (hr1 : a 4 6 = a 146 2) (hr2 : a 2 1 = a 146 22) (hr3 : a 105 5 = a 146 68) : jt (jxX E d 305 421 [some (.inr (.inr (.inl 3000))), some (.inr (.inr (.inl 0))), some (.inr (.inr (.inl 146))), some (.inl y3)] [] (jxSH, a, b)) (fun v _ _ => v = [.inl 1]) := by
  refine jt_eq (bq_law_421 E d y3 a b) ?_
  have h300_ := iv_get hv (k := 0) (j := 0) (l := 0) (u := 1999) rfl
  have h301_ := iv_get hv (k := 146) (j := 0) (l := 0) (u := 1999) rfl
  have h302_ := iv_get hv (k := 4) (j := 6) (l := 0) (u := 40) rfl
  have h303_ := iv_get hv (k := 146) (j := 2) (l := 0) (u := 40) rfl
  have h304_ := iv_get hv (k := 2) (j := 1) (l := 0) (u := 200) rfl
  have h305_ := iv_get hv (k := 146) (j := 22) (l := 0) (u := 200) rfl
  have h306_ := iv_get hv (k := 105) (j := 5) (l := 0) (u := 10) rfl
  have h307_ := iv_get hv (k := 146) (j := 68) (l := 0) (u := 10) rfl
  refine jt_bif (Nat.ble_eq_true_of_le (by omega)) ?_
  have h308_ : jxw (y3 + 1) = y3 + 1 := jxw_id (by omega) (by omega)
  refine jt_grd (by omega) ?_
  refine jt_bif (Nat.ble_eq_true_of_le (by omega)) ?_
  have h309_ : jxw (y3 + 2) = y3 + 2 := jxw_id (by omega) (by omega)
  refine jt_grd (by omega) ?_
  refine jt_bI (sp_X11_meets E d (jd_le hd rfl) (E.2 ((jxw (y3 + 1)).toNat)) (E.2 ((jxw (y3 + 2)).toNat)) a b hv hg8) (fun r310_ a310_ b310_ h310_ => ?_)
  obtain ⟨rfl, rfl, hq310_0, hq310_1, hq310_2⟩ := h310_
  refine jt_bif (Nat.ble_eq_true_of_le (by omega)) ?_
  refine jt_grd (by omega) ?_
  refine jt_bif (Nat.ble_eq_true_of_le (by omega)) ?_
  refine jt_grd (by omega) ?_
  refine jt_bI (sp_X12_meets E d (jd_le hd rfl) (E.2 ((jxw (y3 + 1)).toNat)) (E.2 ((jxw (y3 + 2)).toNat)) a b hv hg0 hg8) (fun r311_ a311_ b311_ h311_ => ?_)
  obtain ⟨hv311_, hf311_, rfl, hq311_0, hq311_1, hq311_2⟩ := h311_
  have hmt311 : 0 ≤ (E.2 ((jxw (y3 + 1)).toNat)) → (E.2 ((jxw (y3 + 1)).toNat)) < a 4 6 → 0 ≤ (E.2 ((jxw (y3 + 2)).toNat)) → (E.2 ((jxw (y3 + 2)).toNat)) < a 4 6 → ¬ (E.2 ((jxw (y3 + 1)).toNat)) = (E.2 ((jxw (y3 + 2)).toNat)) → r310_ = r311_ := fun h1 h2 h3 h4 h5 => by have e1 := hq310_1 h1 h2 h3 h4 h5; have e2 := hq311_1 h1 (by omega) h3 (by omega) h5; exact e1.trans ((MET_eq hv hg8 hg6 hg7 hr0 h1 h2 h3 h4).trans e2.symm)
  refine jt_ite (fun c312_ => ?_) (fun c312_ => ?_)
  ·
    have h313_ := iv_get hv311_ (k := 0) (j := 0) (l := 0) (u := 1999) rfl
    have h314_ : a311_ 0 0 = a 0 0 := hf311_ 0 0 rfl
    have h315_ := iv_get hv311_ (k := 146) (j := 0) (l := 0) (u := 1999) rfl
    have h316_ : a311_ 146 0 = a 146 0 := hf311_ 146 0 rfl
    have h317_ := iv_get hv311_ (k := 4) (j := 6) (l := 0) (u := 40) rfl
    have h318_ : a311_ 4 6 = a 4 6 := hf311_ 4 6 rfl
    have h319_ := iv_get hv311_ (k := 146) (j := 2) (l := 0) (u := 40) rfl
    have h320_ : a311_ 146 2 = a 146 2 := hf311_ 146 2 rfl
    have h321_ := iv_get hv311_ (k := 2) (j := 1) (l := 0) (u := 200) rfl
    have h322_ : a311_ 2 1 = a 2 1 := hf311_ 2 1 rfl
    have h323_ := iv_get hv311_ (k := 146) (j := 22) (l := 0) (u := 200) rfl
    have h324_ : a311_ 146 22 = a 146 22 := hf311_ 146 22 rfl
    have h325_ := iv_get hv311_ (k := 105) (j := 5) (l := 0) (u := 10) rfl
    have h326_ : a311_ 105 5 = a 105 5 := hf311_ 105 5 rfl
    have h327_ := iv_get hv311_ (k := 146) (j := 68) (l := 0) (u := 10) rfl
    have h328_ : a311_ 146 68 = a 146 68 := hf311_ 146 68 rfl
    exact hnext a311_ b hv311_ (WFW_fr hg0 hf311_ (fun _ => rfl) (fun _ => rfl)) (SV_fr hg1 hf311_ (fun _ => rfl) (fun _ => rfl)) (OC_fr hg2 hf311_ rfl rfl (fun _ => rfl) (fun _ => rfl) (fun _ => rfl) (fun _ => rfl) (fun _ => rfl)) (FO_fr hg3 hf311_ rfl rfl (fun _ => rfl)) (FW_fr hg4 hf311_ rfl (fun _ => rfl)) (TAPE_fr hg5 hf311_ (fun _ => rfl) (fun _ => rfl)) (MEMR_fr hg6 hf311_ (fun _ => rfl) (fun _ => rfl) (fun _ => rfl) (fun _ => rfl) (fun _ => rfl) (fun _ => rfl) (fun _ => rfl) (fun _ => rfl) (fun _ => rfl) (fun _ => rfl)) (FARR_fr hg7 hf311_ (fun _ => rfl) (fun _ => rfl)) (WISHR_fr hg8 hf311_ (fun _ => rfl) (fun _ => rfl) (fun _ => rfl) (fun _ => rfl)) (show a311_ 0 0 = a311_ 146 0 from by omega) (show a311_ 4 6 = a311_ 146 2 from by omega) (show a311_ 2 1 = a311_ 146 22 from by omega) (show a311_ 105 5 = a311_ 146 68 from by omega)
  ·
    exact absurd (by omega : False) id
theorem lw_op454 (E : jxE) (d : Nat) (hd : Nat.ble 60 (d + 1) = true) (hL : E.1 ≤ 3072) (y3 : Int) (hy0 : 0 ≤ y3) (hy1 : y3 + 6 ≤ E.1) (hnext : ∀ (a b : Nat → Nat → Int) (hv : iv a) (hg0 : WFW a) (hg1 : SV a) (hg2 : OC a) (hg3 : FO a) (hg4 : FW a) (hg5 : TAPE a) (hg6 : MEMR a) (hg7 : FARR a) (hg8 : WISHR a) (hr0 : a 0 0 = a 146 0) (hr1 : a 4 6 = a 146 2) (hr2 : a 2 1 = a 146 22) (hr3 : a 105 5 = a 146 68), jt (jxX E d 305 1189 [some (.inr (.inr (.inl 3000))), some (.inr (.inr (.inl 0))), some (.inr (.inr (.inl 146))), some (.inl y3)] [] (jxSH, a, b)) (fun v _ _ => v = [.inl 1])) (a b : Nat → Nat → Int) (hv : iv a) (hg0 : WFW a) (hg1 : SV a) (hg2 : OC a) (hg3 : FO a) (hg4 : FW a) (hg5 : TAPE a) (hg6 : MEMR a) (hg7 : FARR a) (hg8 : WISHR a) (hr0 : a 0 0 = a 146 0) (hr1 : a 4 6 = a 146 2) (hr2 : a 2 1 = a 146 22) (hr3 : a 105 5 = a 146 68) : jt (jxX E d 305 454 [some (.inr (.inr (.inl 3000))), some (.inr (.inr (.inl 0))), some (.inr (.inr (.inl 146))), some (.inl y3)] [] (jxSH, a, b)) (fun v _ _ => v = [.inl 1]) := by
  refine jt_eq (bq_law_454 E d y3 a b) ?_
  have h329_ := iv_get hv (k := 0) (j := 0) (l := 0) (u := 1999) rfl
  have h330_ := iv_get hv (k := 146) (j := 0) (l := 0) (u := 1999) rfl
  have h331_ := iv_get hv (k := 4) (j := 6) (l := 0) (u := 40) rfl
  have h332_ := iv_get hv (k := 146) (j := 2) (l := 0) (u := 40) rfl
  have h333_ := iv_get hv (k := 2) (j := 1) (l := 0) (u := 200) rfl
  have h334_ := iv_get hv (k := 146) (j := 22) (l := 0) (u := 200) rfl
  have h335_ := iv_get hv (k := 105) (j := 5) (l := 0) (u := 10) rfl
  have h336_ := iv_get hv (k := 146) (j := 68) (l := 0) (u := 10) rfl
  refine jt_bI (sp_X11_rules E d (jd_le hd rfl) a b hv) (fun r337_ a337_ b337_ h337_ => ?_)
  obtain ⟨hv337_, hf337_, rfl, hq337_0, hq337_1, hq337_2, hq337_3, hq337_4, hq337_5, hq337_6⟩ := h337_
  have h338_ := iv_get hv337_ (k := 2) (j := 1) (l := 0) (u := 200) rfl
  refine jt_eq (bq_law_459 E d y3 a337_ b) ?_
  refine jt_bI (sp_X12_rules E d (jd_le hd rfl) a337_ b hv337_) (fun r339_ a339_ b339_ h339_ => ?_)
  obtain ⟨hv339_, hf339_, rfl, hq339_0, hq339_1, hq339_2, hq339_3, hq339_4, hq339_5, hq339_6⟩ := h339_
  have h340_ := iv_get hv337_ (k := 146) (j := 22) (l := 0) (u := 200) rfl
  have h341_ : a337_ 146 22 = a 146 22 := hf337_ 146 22 rfl
  have h342_ := iv_get hv339_ (k := 146) (j := 22) (l := 0) (u := 200) rfl
  have h343_ := iv_get hv339_ (k := 0) (j := 0) (l := 0) (u := 1999) rfl
  have h344_ : a339_ 0 0 = a337_ 0 0 := hf339_ 0 0 rfl
  have h345_ := iv_get hv337_ (k := 0) (j := 0) (l := 0) (u := 1999) rfl
  have h346_ : a337_ 0 0 = a 0 0 := hf337_ 0 0 rfl
  have h347_ := iv_get hv339_ (k := 146) (j := 0) (l := 0) (u := 1999) rfl
  have h348_ : a339_ 146 0 = a337_ 146 0 := hf339_ 146 0 rfl
  have h349_ := iv_get hv337_ (k := 146) (j := 0) (l := 0) (u := 1999) rfl
  have h350_ : a337_ 146 0 = a 146 0 := hf337_ 146 0 rfl
  have h351_ := iv_get hv339_ (k := 4) (j := 6) (l := 0) (u := 40) rfl
  have h352_ : a339_ 4 6 = a337_ 4 6 := hf339_ 4 6 rfl
  have h353_ := iv_get hv337_ (k := 4) (j := 6) (l := 0) (u := 40) rfl
  have h354_ : a337_ 4 6 = a 4 6 := hf337_ 4 6 rfl
  have h355_ := iv_get hv339_ (k := 146) (j := 2) (l := 0) (u := 40) rfl
  have h356_ : a339_ 146 2 = a337_ 146 2 := hf339_ 146 2 rfl
  have h357_ := iv_get hv337_ (k := 146) (j := 2) (l := 0) (u := 40) rfl
  have h358_ : a337_ 146 2 = a 146 2 := hf337_ 146 2 rfl
  have h359_ := iv_get hv339_ (k := 2) (j := 1) (l := 0) (u := 200) rfl
  have h360_ : a339_ 2 1 = a337_ 2 1 := hf339_ 2 1 rfl
  have h361_ := iv_get hv339_ (k := 105) (j := 5) (l := 0) (u := 10) rfl
  have h362_ : a339_ 105 5 = a337_ 105 5 := hf339_ 105 5 rfl
  have h363_ := iv_get hv337_ (k := 105) (j := 5) (l := 0) (u := 10) rfl
  have h364_ : a337_ 105 5 = a 105 5 := hf337_ 105 5 rfl
  have h365_ := iv_get hv339_ (k := 146) (j := 68) (l := 0) (u := 10) rfl
  have h366_ : a339_ 146 68 = a337_ 146 68 := hf339_ 146 68 rfl
  have h367_ := iv_get hv337_ (k := 146) (j := 68) (l := 0) (u := 10) rfl
  have h368_ : a337_ 146 68 = a 146 68 := hf337_ 146 68 rfl
  exact hnext a339_ b hv339_ (WFW_fr (WFW_fr hg0 hf337_ (fun _ => rfl) (fun _ => rfl)) hf339_ (fun _ => rfl) (fun _ => rfl)) (SV_fr (SV_fr hg1 hf337_ (fun _ => rfl) (fun _ => rfl)) hf339_ (fun _ => rfl) (fun _ => rfl)) (OC_fr (OC_fr hg2 hf337_ rfl rfl (fun _ => rfl) (fun _ => rfl) (fun _ => rfl) (fun _ => rfl) (fun _ => rfl)) hf339_ rfl rfl (fun _ => rfl) (fun _ => rfl) (fun _ => rfl) (fun _ => rfl) (fun _ => rfl)) (FO_fr (FO_fr hg3 hf337_ rfl rfl (fun _ => rfl)) hf339_ rfl rfl (fun _ => rfl)) (FW_fr (FW_fr hg4 hf337_ rfl (fun _ => rfl)) hf339_ rfl (fun _ => rfl)) (TAPE_fr (TAPE_fr hg5 hf337_ (fun _ => rfl) (fun _ => rfl)) hf339_ (fun _ => rfl) (fun _ => rfl)) (MEMR_fr (MEMR_fr hg6 hf337_ (fun _ => rfl) (fun _ => rfl) (fun _ => rfl) (fun _ => rfl) (fun _ => rfl) (fun _ => rfl) (fun _ => rfl) (fun _ => rfl) (fun _ => rfl) (fun _ => rfl)) hf339_ (fun _ => rfl) (fun _ => rfl) (fun _ => rfl) (fun _ => rfl) (fun _ => rfl) (fun _ => rfl) (fun _ => rfl) (fun _ => rfl) (fun _ => rfl) (fun _ => rfl)) (FARR_fr (FARR_fr hg7 hf337_ (fun _ => rfl) (fun _ => rfl)) hf339_ (fun _ => rfl) (fun _ => rfl)) (WISHR_fr (WISHR_fr hg8 hf337_ (fun _ => rfl) (fun _ => rfl) (fun _ => rfl) (fun _ => rfl)) hf339_ (fun _ => rfl) (fun _ => rfl) (fun _ => rfl) (fun _ => rfl)) (show a339_ 0 0 = a339_ 146 0 from by omega) (show a339_ 4 6 = a339_ 146 2 from by omega) (show a339_ 2 1 = a339_ 146 22 from by omega) (show a339_ 105 5 = a339_ 146 68 from by omega)
theorem lw_op467 (E : jxE) (d : Nat) (hd : Nat.ble 60 (d + 1) = true) (hL : E.1 ≤ 3072) (y3 : Int) (hy0 : 0 ≤ y3) (hy1 : y3 + 6 ≤ E.1) (hnext : ∀ (a b : Nat → Nat → Int) (hv : iv a) (hg0 : WFW a) (hg1 : SV a) (hg2 : OC a) (hg3 : FO a) (hg4 : FW a) (hg5 : TAPE a) (hg6 : MEMR a) (hg7 : FARR a) (hg8 : WISHR a) (hr0 : a 0 0 = a 146 0) (hr1 : a 4 6 = a 146 2) (hr2 : a 2 1 = a 146 22) (hr3 : a 105 5 = a 146 68), jt (jxX E d 305 1189 [some (.inr (.inr (.inl 3000))), some (.inr (.inr (.inl 0))), some (.inr (.inr (.inl 146))), some (.inl y3)] [] (jxSH, a, b)) (fun v _ _ => v = [.inl 1])) (a b : Nat → Nat → Int) (hv : iv a) (hg0 : WFW a) (hg1 : SV a) (hg2 : OC a) (hg3 : FO a) (hg4 : FW a) (hg5 : TAPE a) (hg6 : MEMR a) (hg7 : FARR a) (hg8 : WISHR a) (hr0 : a 0 0 = a 146 0) (hr1 : a 4 6 = a 146 2) (hr2 : a 2 1 = a 146 22) (hr3 : a 105 5 = a 146 68) : jt (jxX E d 305 467 [some (.inr (.inr (.inl 3000))), some (.inr (.inr (.inl 0))), some (.inr (.inr (.inl 146))), some (.inl y3)] [] (jxSH, a, b)) (fun v _ _ => v = [.inl 1]) := by
  refine jt_eq (bq_law_467 E d y3 a b) ?_
  have h369_ := iv_get hv (k := 0) (j := 0) (l := 0) (u := 1999) rfl
  have h370_ := iv_get hv (k := 146) (j := 0) (l := 0) (u := 1999) rfl
  have h371_ := iv_get hv (k := 4) (j := 6) (l := 0) (u := 40) rfl
  have h372_ := iv_get hv (k := 146) (j := 2) (l := 0) (u := 40) rfl
  have h373_ := iv_get hv (k := 2) (j := 1) (l := 0) (u := 200) rfl
  have h374_ := iv_get hv (k := 146) (j := 22) (l := 0) (u := 200) rfl
  have h375_ := iv_get hv (k := 105) (j := 5) (l := 0) (u := 10) rfl
  have h376_ := iv_get hv (k := 146) (j := 68) (l := 0) (u := 10) rfl
  refine jt_bif (Nat.ble_eq_true_of_le (by omega)) ?_
  have h377_ : jxw (y3 + 1) = y3 + 1 := jxw_id (by omega) (by omega)
  refine jt_grd (by omega) ?_
  refine jt_bI (sp_X11_ask E d (jd_le hd rfl) (E.2 ((jxw (y3 + 1)).toNat)) a b hv hg8) (fun r378_ a378_ b378_ h378_ => ?_)
  obtain ⟨hv378_, hf378_, rfl, hq378_0⟩ := h378_
  refine jt_eq (bq_law_477 E d y3 a378_ b) ?_
  refine jt_bif (Nat.ble_eq_true_of_le (by omega)) ?_
  refine jt_grd (by omega) ?_
  refine jt_bI (sp_X12_ask E d (jd_le hd rfl) (E.2 ((jxw (y3 + 1)).toNat)) a378_ b hv378_ (WFW_fr hg0 hf378_ (fun _ => rfl) (fun _ => rfl)) (OC_fr hg2 hf378_ rfl rfl (fun _ => rfl) (fun _ => rfl) (fun _ => rfl) (fun _ => rfl) (fun _ => rfl)) (WISHR_fr hg8 hf378_ (fun _ => rfl) (fun _ => rfl) (fun _ => rfl) (fun _ => rfl))) (fun r379_ a379_ b379_ h379_ => ?_)
  obtain ⟨hv379_, hf379_, rfl, hq379_0, hq379_1⟩ := h379_
  have h380_ := iv_get hv378_ (k := 146) (j := 2) (l := 0) (u := 40) rfl
  have h381_ : a378_ 146 2 = a 146 2 := hf378_ 146 2 rfl
  have h382_ := iv_get hv379_ (k := 0) (j := 0) (l := 0) (u := 1999) rfl
  have h383_ : a379_ 0 0 = a378_ 0 0 := hf379_ 0 0 rfl
  have h384_ := iv_get hv378_ (k := 0) (j := 0) (l := 0) (u := 1999) rfl
  have h385_ : a378_ 0 0 = a 0 0 := hf378_ 0 0 rfl
  have h386_ := iv_get hv379_ (k := 146) (j := 0) (l := 0) (u := 1999) rfl
  have h387_ : a379_ 146 0 = a378_ 146 0 := hf379_ 146 0 rfl
  have h388_ := iv_get hv378_ (k := 146) (j := 0) (l := 0) (u := 1999) rfl
  have h389_ : a378_ 146 0 = a 146 0 := hf378_ 146 0 rfl
  have h390_ := iv_get hv379_ (k := 4) (j := 6) (l := 0) (u := 40) rfl
  have h391_ : a379_ 4 6 = a378_ 4 6 := hf379_ 4 6 rfl
  have h392_ := iv_get hv378_ (k := 4) (j := 6) (l := 0) (u := 40) rfl
  have h393_ : a378_ 4 6 = a 4 6 := hf378_ 4 6 rfl
  have h394_ := iv_get hv379_ (k := 146) (j := 2) (l := 0) (u := 40) rfl
  have h395_ : a379_ 146 2 = a378_ 146 2 := hf379_ 146 2 rfl
  have h396_ := iv_get hv379_ (k := 2) (j := 1) (l := 0) (u := 200) rfl
  have h397_ : a379_ 2 1 = a378_ 2 1 := hf379_ 2 1 rfl
  have h398_ := iv_get hv378_ (k := 2) (j := 1) (l := 0) (u := 200) rfl
  have h399_ : a378_ 2 1 = a 2 1 := hf378_ 2 1 rfl
  have h400_ := iv_get hv379_ (k := 146) (j := 22) (l := 0) (u := 200) rfl
  have h401_ : a379_ 146 22 = a378_ 146 22 := hf379_ 146 22 rfl
  have h402_ := iv_get hv378_ (k := 146) (j := 22) (l := 0) (u := 200) rfl
  have h403_ : a378_ 146 22 = a 146 22 := hf378_ 146 22 rfl
  have h404_ := iv_get hv379_ (k := 105) (j := 5) (l := 0) (u := 10) rfl
  have h405_ : a379_ 105 5 = a378_ 105 5 := hf379_ 105 5 rfl
  have h406_ := iv_get hv378_ (k := 105) (j := 5) (l := 0) (u := 10) rfl
  have h407_ : a378_ 105 5 = a 105 5 := hf378_ 105 5 rfl
  have h408_ := iv_get hv379_ (k := 146) (j := 68) (l := 0) (u := 10) rfl
  have h409_ : a379_ 146 68 = a378_ 146 68 := hf379_ 146 68 rfl
  have h410_ := iv_get hv378_ (k := 146) (j := 68) (l := 0) (u := 10) rfl
  have h411_ : a378_ 146 68 = a 146 68 := hf378_ 146 68 rfl
  exact hnext a379_ b hv379_ (WFW_fr (WFW_fr hg0 hf378_ (fun _ => rfl) (fun _ => rfl)) hf379_ (fun _ => rfl) (fun _ => rfl)) (SV_fr (SV_fr hg1 hf378_ (fun _ => rfl) (fun _ => rfl)) hf379_ (fun _ => rfl) (fun _ => rfl)) hq379_0 (FO_fr (FO_fr hg3 hf378_ rfl rfl (fun _ => rfl)) hf379_ rfl rfl (fun _ => rfl)) (FW_fr (FW_fr hg4 hf378_ rfl (fun _ => rfl)) hf379_ rfl (fun _ => rfl)) (TAPE_fr (TAPE_fr hg5 hf378_ (fun _ => rfl) (fun _ => rfl)) hf379_ (fun _ => rfl) (fun _ => rfl)) (MEMR_fr (MEMR_fr hg6 hf378_ (fun _ => rfl) (fun _ => rfl) (fun _ => rfl) (fun _ => rfl) (fun _ => rfl) (fun _ => rfl) (fun _ => rfl) (fun _ => rfl) (fun _ => rfl) (fun _ => rfl)) hf379_ (fun _ => rfl) (fun _ => rfl) (fun _ => rfl) (fun _ => rfl) (fun _ => rfl) (fun _ => rfl) (fun _ => rfl) (fun _ => rfl) (fun _ => rfl) (fun _ => rfl)) (FARR_fr (FARR_fr hg7 hf378_ (fun _ => rfl) (fun _ => rfl)) hf379_ (fun _ => rfl) (fun _ => rfl)) (WISHR_fr (WISHR_fr hg8 hf378_ (fun _ => rfl) (fun _ => rfl) (fun _ => rfl) (fun _ => rfl)) hf379_ (fun _ => rfl) (fun _ => rfl) (fun _ => rfl) (fun _ => rfl)) (show a379_ 0 0 = a379_ 146 0 from by omega) (show a379_ 4 6 = a379_ 146 2 from by omega) (show a379_ 2 1 = a379_ 146 22 from by omega) (show a379_ 105 5 = a379_ 146 68 from by omega)
theorem lw_op490 (E : jxE) (d : Nat) (hd : Nat.ble 60 (d + 1) = true) (hL : E.1 ≤ 3072) (y3 : Int) (hy0 : 0 ≤ y3) (hy1 : y3 + 6 ≤ E.1) (hnext : ∀ (a b : Nat → Nat → Int) (hv : iv a) (hg0 : WFW a) (hg1 : SV a) (hg2 : OC a) (hg3 : FO a) (hg4 : FW a) (hg5 : TAPE a) (hg6 : MEMR a) (hg7 : FARR a) (hg8 : WISHR a) (hr0 : a 0 0 = a 146 0) (hr1 : a 4 6 = a 146 2) (hr2 : a 2 1 = a 146 22) (hr3 : a 105 5 = a 146 68), jt (jxX E d 305 1189 [some (.inr (.inr (.inl 3000))), some (.inr (.inr (.inl 0))), some (.inr (.inr (.inl 146))), some (.inl y3)] [] (jxSH, a, b)) (fun v _ _ => v = [.inl 1])) (a b : Nat → Nat → Int) (hv : iv a) (hg0 : WFW a) (hg1 : SV a) (hg2 : OC a) (hg3 : FO a) (hg4 : FW a) (hg5 : TAPE a) (hg6 : MEMR a) (hg7 : FARR a) (hg8 : WISHR a) (hr0 : a 0 0 = a 146 0) (hr1 : a 4 6 = a 146 2) (hr2 : a 2 1 = a 146 22) (hr3 : a 105 5 = a 146 68) : jt (jxX E d 305 490 [some (.inr (.inr (.inl 3000))), some (.inr (.inr (.inl 0))), some (.inr (.inr (.inl 146))), some (.inl y3)] [] (jxSH, a, b)) (fun v _ _ => v = [.inl 1]) := by
  refine jt_eq (bq_law_490 E d y3 a b) ?_
  have h412_ := iv_get hv (k := 0) (j := 0) (l := 0) (u := 1999) rfl
  have h413_ := iv_get hv (k := 146) (j := 0) (l := 0) (u := 1999) rfl
  have h414_ := iv_get hv (k := 4) (j := 6) (l := 0) (u := 40) rfl
  have h415_ := iv_get hv (k := 146) (j := 2) (l := 0) (u := 40) rfl
  have h416_ := iv_get hv (k := 2) (j := 1) (l := 0) (u := 200) rfl
  have h417_ := iv_get hv (k := 146) (j := 22) (l := 0) (u := 200) rfl
  have h418_ := iv_get hv (k := 105) (j := 5) (l := 0) (u := 10) rfl
  have h419_ := iv_get hv (k := 146) (j := 68) (l := 0) (u := 10) rfl
  refine jt_bif (Nat.ble_eq_true_of_le (by omega)) ?_
  have h420_ : jxw (y3 + 1) = y3 + 1 := jxw_id (by omega) (by omega)
  refine jt_grd (by omega) ?_
  refine jt_bif (Nat.ble_eq_true_of_le (by omega)) ?_
  have h421_ : jxw (y3 + 2) = y3 + 2 := jxw_id (by omega) (by omega)
  refine jt_grd (by omega) ?_
  refine jt_bI (sp_X11_may E d (jd_le hd rfl) (E.2 ((jxw (y3 + 1)).toNat)) (E.2 ((jxw (y3 + 2)).toNat)) a b hv hg8) (fun r422_ a422_ b422_ h422_ => ?_)
  obtain ⟨hv422_, hf422_, rfl, hq422_0⟩ := h422_
  refine jt_eq (bq_law_505 E d y3 a422_ b) ?_
  refine jt_bif (Nat.ble_eq_true_of_le (by omega)) ?_
  refine jt_grd (by omega) ?_
  refine jt_bif (Nat.ble_eq_true_of_le (by omega)) ?_
  refine jt_grd (by omega) ?_
  refine jt_bI (sp_X12_may E d (jd_le hd rfl) (E.2 ((jxw (y3 + 1)).toNat)) (E.2 ((jxw (y3 + 2)).toNat)) a422_ b hv422_ (WFW_fr hg0 hf422_ (fun _ => rfl) (fun _ => rfl)) (WISHR_fr hg8 hf422_ (fun _ => rfl) (fun _ => rfl) (fun _ => rfl) (fun _ => rfl))) (fun r423_ a423_ b423_ h423_ => ?_)
  obtain ⟨hv423_, hf423_, rfl, hq423_0⟩ := h423_
  have h424_ := iv_get hv422_ (k := 146) (j := 2) (l := 0) (u := 40) rfl
  have h425_ : a422_ 146 2 = a 146 2 := hf422_ 146 2 rfl
  have h426_ := iv_get hv423_ (k := 0) (j := 0) (l := 0) (u := 1999) rfl
  have h427_ : a423_ 0 0 = a422_ 0 0 := hf423_ 0 0 rfl
  have h428_ := iv_get hv422_ (k := 0) (j := 0) (l := 0) (u := 1999) rfl
  have h429_ : a422_ 0 0 = a 0 0 := hf422_ 0 0 rfl
  have h430_ := iv_get hv423_ (k := 146) (j := 0) (l := 0) (u := 1999) rfl
  have h431_ : a423_ 146 0 = a422_ 146 0 := hf423_ 146 0 rfl
  have h432_ := iv_get hv422_ (k := 146) (j := 0) (l := 0) (u := 1999) rfl
  have h433_ : a422_ 146 0 = a 146 0 := hf422_ 146 0 rfl
  have h434_ := iv_get hv423_ (k := 4) (j := 6) (l := 0) (u := 40) rfl
  have h435_ : a423_ 4 6 = a422_ 4 6 := hf423_ 4 6 rfl
  have h436_ := iv_get hv422_ (k := 4) (j := 6) (l := 0) (u := 40) rfl
  have h437_ : a422_ 4 6 = a 4 6 := hf422_ 4 6 rfl
  have h438_ := iv_get hv423_ (k := 146) (j := 2) (l := 0) (u := 40) rfl
  have h439_ : a423_ 146 2 = a422_ 146 2 := hf423_ 146 2 rfl
  have h440_ := iv_get hv423_ (k := 2) (j := 1) (l := 0) (u := 200) rfl
  have h441_ : a423_ 2 1 = a422_ 2 1 := hf423_ 2 1 rfl
  have h442_ := iv_get hv422_ (k := 2) (j := 1) (l := 0) (u := 200) rfl
  have h443_ : a422_ 2 1 = a 2 1 := hf422_ 2 1 rfl
  have h444_ := iv_get hv423_ (k := 146) (j := 22) (l := 0) (u := 200) rfl
  have h445_ : a423_ 146 22 = a422_ 146 22 := hf423_ 146 22 rfl
  have h446_ := iv_get hv422_ (k := 146) (j := 22) (l := 0) (u := 200) rfl
  have h447_ : a422_ 146 22 = a 146 22 := hf422_ 146 22 rfl
  have h448_ := iv_get hv423_ (k := 105) (j := 5) (l := 0) (u := 10) rfl
  have h449_ : a423_ 105 5 = a422_ 105 5 := hf423_ 105 5 rfl
  have h450_ := iv_get hv422_ (k := 105) (j := 5) (l := 0) (u := 10) rfl
  have h451_ : a422_ 105 5 = a 105 5 := hf422_ 105 5 rfl
  have h452_ := iv_get hv423_ (k := 146) (j := 68) (l := 0) (u := 10) rfl
  have h453_ : a423_ 146 68 = a422_ 146 68 := hf423_ 146 68 rfl
  have h454_ := iv_get hv422_ (k := 146) (j := 68) (l := 0) (u := 10) rfl
  have h455_ : a422_ 146 68 = a 146 68 := hf422_ 146 68 rfl
  exact hnext a423_ b hv423_ (WFW_fr (WFW_fr hg0 hf422_ (fun _ => rfl) (fun _ => rfl)) hf423_ (fun _ => rfl) (fun _ => rfl)) (SV_fr (SV_fr hg1 hf422_ (fun _ => rfl) (fun _ => rfl)) hf423_ (fun _ => rfl) (fun _ => rfl)) (OC_fr (OC_fr hg2 hf422_ rfl rfl (fun _ => rfl) (fun _ => rfl) (fun _ => rfl) (fun _ => rfl) (fun _ => rfl)) hf423_ rfl rfl (fun _ => rfl) (fun _ => rfl) (fun _ => rfl) (fun _ => rfl) (fun _ => rfl)) (FO_fr (FO_fr hg3 hf422_ rfl rfl (fun _ => rfl)) hf423_ rfl rfl (fun _ => rfl)) (FW_fr (FW_fr hg4 hf422_ rfl (fun _ => rfl)) hf423_ rfl (fun _ => rfl)) (TAPE_fr (TAPE_fr hg5 hf422_ (fun _ => rfl) (fun _ => rfl)) hf423_ (fun _ => rfl) (fun _ => rfl)) (MEMR_fr (MEMR_fr hg6 hf422_ (fun _ => rfl) (fun _ => rfl) (fun _ => rfl) (fun _ => rfl) (fun _ => rfl) (fun _ => rfl) (fun _ => rfl) (fun _ => rfl) (fun _ => rfl) (fun _ => rfl)) hf423_ (fun _ => rfl) (fun _ => rfl) (fun _ => rfl) (fun _ => rfl) (fun _ => rfl) (fun _ => rfl) (fun _ => rfl) (fun _ => rfl) (fun _ => rfl) (fun _ => rfl)) (FARR_fr (FARR_fr hg7 hf422_ (fun _ => rfl) (fun _ => rfl)) hf423_ (fun _ => rfl) (fun _ => rfl)) (WISHR_fr (WISHR_fr hg8 hf422_ (fun _ => rfl) (fun _ => rfl) (fun _ => rfl) (fun _ => rfl)) hf423_ (fun _ => rfl) (fun _ => rfl) (fun _ => rfl) (fun _ => rfl)) (show a423_ 0 0 = a423_ 146 0 from by omega) (show a423_ 4 6 = a423_ 146 2 from by omega) (show a423_ 2 1 = a423_ 146 22 from by omega) (show a423_ 105 5 = a423_ 146 68 from by omega)
theorem lw_op523 (E : jxE) (d : Nat) (hd : Nat.ble 60 (d + 1) = true) (hL : E.1 ≤ 3072) (y3 : Int) (hy0 : 0 ≤ y3) (hy1 : y3 + 6 ≤ E.1) (hnext : ∀ (a b : Nat → Nat → Int) (hv : iv a) (hg0 : WFW a) (hg1 : SV a) (hg2 : OC a) (hg3 : FO a) (hg4 : FW a) (hg5 : TAPE a) (hg6 : MEMR a) (hg7 : FARR a) (hg8 : WISHR a) (hr0 : a 0 0 = a 146 0) (hr1 : a 4 6 = a 146 2) (hr2 : a 2 1 = a 146 22) (hr3 : a 105 5 = a 146 68), jt (jxX E d 305 1189 [some (.inr (.inr (.inl 3000))), some (.inr (.inr (.inl 0))), some (.inr (.inr (.inl 146))), some (.inl y3)] [] (jxSH, a, b)) (fun v _ _ => v = [.inl 1])) (a b : Nat → Nat → Int) (hv : iv a) (hg0 : WFW a) (hg1 : SV a) (hg2 : OC a) (hg3 : FO a) (hg4 : FW a) (hg5 : TAPE a) (hg6 : MEMR a) (hg7 : FARR a) (hg8 : WISHR a) (hr0 : a 0 0 = a 146 0) (hr1 : a 4 6 = a 146 2) (hr2 : a 2 1 = a 146 22) (hr3 : a 105 5 = a 146 68) : jt (jxX E d 305 523 [some (.inr (.inr (.inl 3000))), some (.inr (.inr (.inl 0))), some (.inr (.inr (.inl 146))), some (.inl y3)] [] (jxSH, a, b)) (fun v _ _ => v = [.inl 1]) := by
  refine jt_eq (bq_law_523 E d y3 a b) ?_
  have h456_ := iv_get hv (k := 0) (j := 0) (l := 0) (u := 1999) rfl
  have h457_ := iv_get hv (k := 146) (j := 0) (l := 0) (u := 1999) rfl
  have h458_ := iv_get hv (k := 4) (j := 6) (l := 0) (u := 40) rfl
  have h459_ := iv_get hv (k := 146) (j := 2) (l := 0) (u := 40) rfl
  have h460_ := iv_get hv (k := 2) (j := 1) (l := 0) (u := 200) rfl
  have h461_ := iv_get hv (k := 146) (j := 22) (l := 0) (u := 200) rfl
  have h462_ := iv_get hv (k := 105) (j := 5) (l := 0) (u := 10) rfl
  have h463_ := iv_get hv (k := 146) (j := 68) (l := 0) (u := 10) rfl
  refine jt_bif (Nat.ble_eq_true_of_le (by omega)) ?_
  have h464_ : jxw (y3 + 1) = y3 + 1 := jxw_id (by omega) (by omega)
  refine jt_grd (by omega) ?_
  refine jt_bI (sp_X11_list E d (jd_le hd rfl) (E.2 ((jxw (y3 + 1)).toNat)) a b hv) (fun r465_ a465_ b465_ h465_ => ?_)
  obtain ⟨hv465_, hf465_, rfl, hq465_0⟩ := h465_
  refine jt_eq (bq_law_533 E d y3 a465_ b) ?_
  refine jt_bif (Nat.ble_eq_true_of_le (by omega)) ?_
  refine jt_grd (by omega) ?_
  refine jt_bI (sp_X12_list E d (jd_le hd rfl) (E.2 ((jxw (y3 + 1)).toNat)) a465_ b hv465_) (fun r466_ a466_ b466_ h466_ => ?_)
  obtain ⟨hv466_, hf466_, rfl, hq466_0⟩ := h466_
  have h467_ := iv_get hv465_ (k := 146) (j := 2) (l := 0) (u := 40) rfl
  have h468_ : a465_ 146 2 = a 146 2 := hf465_ 146 2 rfl
  have h469_ := iv_get hv466_ (k := 0) (j := 0) (l := 0) (u := 1999) rfl
  have h470_ : a466_ 0 0 = a465_ 0 0 := hf466_ 0 0 rfl
  have h471_ := iv_get hv465_ (k := 0) (j := 0) (l := 0) (u := 1999) rfl
  have h472_ : a465_ 0 0 = a 0 0 := hf465_ 0 0 rfl
  have h473_ := iv_get hv466_ (k := 146) (j := 0) (l := 0) (u := 1999) rfl
  have h474_ : a466_ 146 0 = a465_ 146 0 := hf466_ 146 0 rfl
  have h475_ := iv_get hv465_ (k := 146) (j := 0) (l := 0) (u := 1999) rfl
  have h476_ : a465_ 146 0 = a 146 0 := hf465_ 146 0 rfl
  have h477_ := iv_get hv466_ (k := 4) (j := 6) (l := 0) (u := 40) rfl
  have h478_ : a466_ 4 6 = a465_ 4 6 := hf466_ 4 6 rfl
  have h479_ := iv_get hv465_ (k := 4) (j := 6) (l := 0) (u := 40) rfl
  have h480_ : a465_ 4 6 = a 4 6 := hf465_ 4 6 rfl
  have h481_ := iv_get hv466_ (k := 146) (j := 2) (l := 0) (u := 40) rfl
  have h482_ : a466_ 146 2 = a465_ 146 2 := hf466_ 146 2 rfl
  have h483_ := iv_get hv466_ (k := 2) (j := 1) (l := 0) (u := 200) rfl
  have h484_ : a466_ 2 1 = a465_ 2 1 := hf466_ 2 1 rfl
  have h485_ := iv_get hv465_ (k := 2) (j := 1) (l := 0) (u := 200) rfl
  have h486_ : a465_ 2 1 = a 2 1 := hf465_ 2 1 rfl
  have h487_ := iv_get hv466_ (k := 146) (j := 22) (l := 0) (u := 200) rfl
  have h488_ : a466_ 146 22 = a465_ 146 22 := hf466_ 146 22 rfl
  have h489_ := iv_get hv465_ (k := 146) (j := 22) (l := 0) (u := 200) rfl
  have h490_ : a465_ 146 22 = a 146 22 := hf465_ 146 22 rfl
  have h491_ := iv_get hv466_ (k := 105) (j := 5) (l := 0) (u := 10) rfl
  have h492_ : a466_ 105 5 = a465_ 105 5 := hf466_ 105 5 rfl
  have h493_ := iv_get hv465_ (k := 105) (j := 5) (l := 0) (u := 10) rfl
  have h494_ : a465_ 105 5 = a 105 5 := hf465_ 105 5 rfl
  have h495_ := iv_get hv466_ (k := 146) (j := 68) (l := 0) (u := 10) rfl
  have h496_ : a466_ 146 68 = a465_ 146 68 := hf466_ 146 68 rfl
  have h497_ := iv_get hv465_ (k := 146) (j := 68) (l := 0) (u := 10) rfl
  have h498_ : a465_ 146 68 = a 146 68 := hf465_ 146 68 rfl
  exact hnext a466_ b hv466_ (WFW_fr (WFW_fr hg0 hf465_ (fun _ => rfl) (fun _ => rfl)) hf466_ (fun _ => rfl) (fun _ => rfl)) (SV_fr (SV_fr hg1 hf465_ (fun _ => rfl) (fun _ => rfl)) hf466_ (fun _ => rfl) (fun _ => rfl)) (OC_fr (OC_fr hg2 hf465_ rfl rfl (fun _ => rfl) (fun _ => rfl) (fun _ => rfl) (fun _ => rfl) (fun _ => rfl)) hf466_ rfl rfl (fun _ => rfl) (fun _ => rfl) (fun _ => rfl) (fun _ => rfl) (fun _ => rfl)) (FO_fr (FO_fr hg3 hf465_ rfl rfl (fun _ => rfl)) hf466_ rfl rfl (fun _ => rfl)) (FW_fr (FW_fr hg4 hf465_ rfl (fun _ => rfl)) hf466_ rfl (fun _ => rfl)) (TAPE_fr (TAPE_fr hg5 hf465_ (fun _ => rfl) (fun _ => rfl)) hf466_ (fun _ => rfl) (fun _ => rfl)) (MEMR_fr (MEMR_fr hg6 hf465_ (fun _ => rfl) (fun _ => rfl) (fun _ => rfl) (fun _ => rfl) (fun _ => rfl) (fun _ => rfl) (fun _ => rfl) (fun _ => rfl) (fun _ => rfl) (fun _ => rfl)) hf466_ (fun _ => rfl) (fun _ => rfl) (fun _ => rfl) (fun _ => rfl) (fun _ => rfl) (fun _ => rfl) (fun _ => rfl) (fun _ => rfl) (fun _ => rfl) (fun _ => rfl)) (FARR_fr (FARR_fr hg7 hf465_ (fun _ => rfl) (fun _ => rfl)) hf466_ (fun _ => rfl) (fun _ => rfl)) (WISHR_fr (WISHR_fr hg8 hf465_ (fun _ => rfl) (fun _ => rfl) (fun _ => rfl) (fun _ => rfl)) hf466_ (fun _ => rfl) (fun _ => rfl) (fun _ => rfl) (fun _ => rfl)) (show a466_ 0 0 = a466_ 146 0 from by omega) (show a466_ 4 6 = a466_ 146 2 from by omega) (show a466_ 2 1 = a466_ 146 22 from by omega) (show a466_ 105 5 = a466_ 146 68 from by omega)
theorem lw_op546 (E : jxE) (d : Nat) (hd : Nat.ble 60 (d + 1) = true) (hL : E.1 ≤ 3072) (y3 : Int) (hy0 : 0 ≤ y3) (hy1 : y3 + 6 ≤ E.1) (hnext : ∀ (a b : Nat → Nat → Int) (hv : iv a) (hg0 : WFW a) (hg1 : SV a) (hg2 : OC a) (hg3 : FO a) (hg4 : FW a) (hg5 : TAPE a) (hg6 : MEMR a) (hg7 : FARR a) (hg8 : WISHR a) (hr0 : a 0 0 = a 146 0) (hr1 : a 4 6 = a 146 2) (hr2 : a 2 1 = a 146 22) (hr3 : a 105 5 = a 146 68), jt (jxX E d 305 1189 [some (.inr (.inr (.inl 3000))), some (.inr (.inr (.inl 0))), some (.inr (.inr (.inl 146))), some (.inl y3)] [] (jxSH, a, b)) (fun v _ _ => v = [.inl 1])) (a b : Nat → Nat → Int) (hv : iv a) (hg0 : WFW a) (hg1 : SV a) (hg2 : OC a) (hg3 : FO a) (hg4 : FW a) (hg5 : TAPE a) (hg6 : MEMR a) (hg7 : FARR a) (hg8 : WISHR a) (hr0 : a 0 0 = a 146 0) (hr1 : a 4 6 = a 146 2) (hr2 : a 2 1 = a 146 22) (hr3 : a 105 5 = a 146 68) : jt (jxX E d 305 546 [some (.inr (.inr (.inl 3000))), some (.inr (.inr (.inl 0))), some (.inr (.inr (.inl 146))), some (.inl y3)] [] (jxSH, a, b)) (fun v _ _ => v = [.inl 1]) := by
  refine jt_eq (bq_law_546 E d y3 a b) ?_
  have h499_ := iv_get hv (k := 0) (j := 0) (l := 0) (u := 1999) rfl
  have h500_ := iv_get hv (k := 146) (j := 0) (l := 0) (u := 1999) rfl
  have h501_ := iv_get hv (k := 4) (j := 6) (l := 0) (u := 40) rfl
  have h502_ := iv_get hv (k := 146) (j := 2) (l := 0) (u := 40) rfl
  have h503_ := iv_get hv (k := 2) (j := 1) (l := 0) (u := 200) rfl
  have h504_ := iv_get hv (k := 146) (j := 22) (l := 0) (u := 200) rfl
  have h505_ := iv_get hv (k := 105) (j := 5) (l := 0) (u := 10) rfl
  have h506_ := iv_get hv (k := 146) (j := 68) (l := 0) (u := 10) rfl
  refine jt_bI (sp_X11_give E d (jd_le hd rfl) a b hv hg8) (fun r507_ a507_ b507_ h507_ => ?_)
  obtain ⟨hv507_, hf507_, hq507_0⟩ := h507_
  have h508_ := iv_get hv (k := 0) (j := 9) (l := 0) (u := 8) rfl
  refine jt_eq (bq_law_551 E d y3 a507_ b507_) ?_
  refine jt_bI (sp_X12_give E d (jd_le hd rfl) a507_ b507_ hv507_ (WFW_fr hg0 hf507_ (fun _ => rfl) (fun _ => rfl)) (OC_fr hg2 hf507_ rfl rfl (fun _ => rfl) (fun _ => rfl) (fun _ => rfl) (fun _ => rfl) (fun _ => rfl)) (WISHR_fr hg8 hf507_ (fun _ => rfl) (fun _ => rfl) (fun _ => rfl) (fun _ => rfl))) (fun r509_ a509_ b509_ h509_ => ?_)
  obtain ⟨hv509_, hf509_, hq509_0, hq509_1⟩ := h509_
  have h510_ := iv_get hv507_ (k := 146) (j := 42) (l := 0) (u := 8) rfl
  have h511_ : a507_ 146 42 = a 146 42 := hf507_ 146 42 rfl
  have h512_ := iv_get hv (k := 146) (j := 42) (l := 0) (u := 8) rfl
  have h513_ := iv_get hv509_ (k := 0) (j := 0) (l := 0) (u := 1999) rfl
  have h514_ : a509_ 0 0 = a507_ 0 0 := hf509_ 0 0 rfl
  have h515_ := iv_get hv507_ (k := 0) (j := 0) (l := 0) (u := 1999) rfl
  have h516_ : a507_ 0 0 = a 0 0 := hf507_ 0 0 rfl
  have h517_ := iv_get hv509_ (k := 146) (j := 0) (l := 0) (u := 1999) rfl
  have h518_ : a509_ 146 0 = a507_ 146 0 := hf509_ 146 0 rfl
  have h519_ := iv_get hv507_ (k := 146) (j := 0) (l := 0) (u := 1999) rfl
  have h520_ : a507_ 146 0 = a 146 0 := hf507_ 146 0 rfl
  have h521_ := iv_get hv509_ (k := 4) (j := 6) (l := 0) (u := 40) rfl
  have h522_ : a509_ 4 6 = a507_ 4 6 := hf509_ 4 6 rfl
  have h523_ := iv_get hv507_ (k := 4) (j := 6) (l := 0) (u := 40) rfl
  have h524_ : a507_ 4 6 = a 4 6 := hf507_ 4 6 rfl
  have h525_ := iv_get hv509_ (k := 146) (j := 2) (l := 0) (u := 40) rfl
  have h526_ : a509_ 146 2 = a507_ 146 2 := hf509_ 146 2 rfl
  have h527_ := iv_get hv507_ (k := 146) (j := 2) (l := 0) (u := 40) rfl
  have h528_ : a507_ 146 2 = a 146 2 := hf507_ 146 2 rfl
  have h529_ := iv_get hv509_ (k := 2) (j := 1) (l := 0) (u := 200) rfl
  have h530_ : a509_ 2 1 = a507_ 2 1 := hf509_ 2 1 rfl
  have h531_ := iv_get hv507_ (k := 2) (j := 1) (l := 0) (u := 200) rfl
  have h532_ : a507_ 2 1 = a 2 1 := hf507_ 2 1 rfl
  have h533_ := iv_get hv509_ (k := 146) (j := 22) (l := 0) (u := 200) rfl
  have h534_ : a509_ 146 22 = a507_ 146 22 := hf509_ 146 22 rfl
  have h535_ := iv_get hv507_ (k := 146) (j := 22) (l := 0) (u := 200) rfl
  have h536_ : a507_ 146 22 = a 146 22 := hf507_ 146 22 rfl
  have h537_ := iv_get hv509_ (k := 105) (j := 5) (l := 0) (u := 10) rfl
  have h538_ : a509_ 105 5 = a507_ 105 5 := hf509_ 105 5 rfl
  have h539_ := iv_get hv507_ (k := 105) (j := 5) (l := 0) (u := 10) rfl
  have h540_ : a507_ 105 5 = a 105 5 := hf507_ 105 5 rfl
  have h541_ := iv_get hv509_ (k := 146) (j := 68) (l := 0) (u := 10) rfl
  have h542_ : a509_ 146 68 = a507_ 146 68 := hf509_ 146 68 rfl
  have h543_ := iv_get hv507_ (k := 146) (j := 68) (l := 0) (u := 10) rfl
  have h544_ : a507_ 146 68 = a 146 68 := hf507_ 146 68 rfl
  exact hnext a509_ b509_ hv509_ (WFW_fr (WFW_fr hg0 hf507_ (fun _ => rfl) (fun _ => rfl)) hf509_ (fun _ => rfl) (fun _ => rfl)) (SV_fr (SV_fr hg1 hf507_ (fun _ => rfl) (fun _ => rfl)) hf509_ (fun _ => rfl) (fun _ => rfl)) hq509_0 (FO_fr (FO_fr hg3 hf507_ rfl rfl (fun _ => rfl)) hf509_ rfl rfl (fun _ => rfl)) (FW_fr (FW_fr hg4 hf507_ rfl (fun _ => rfl)) hf509_ rfl (fun _ => rfl)) (TAPE_fr (TAPE_fr hg5 hf507_ (fun _ => rfl) (fun _ => rfl)) hf509_ (fun _ => rfl) (fun _ => rfl)) (MEMR_fr (MEMR_fr hg6 hf507_ (fun _ => rfl) (fun _ => rfl) (fun _ => rfl) (fun _ => rfl) (fun _ => rfl) (fun _ => rfl) (fun _ => rfl) (fun _ => rfl) (fun _ => rfl) (fun _ => rfl)) hf509_ (fun _ => rfl) (fun _ => rfl) (fun _ => rfl) (fun _ => rfl) (fun _ => rfl) (fun _ => rfl) (fun _ => rfl) (fun _ => rfl) (fun _ => rfl) (fun _ => rfl)) (FARR_fr (FARR_fr hg7 hf507_ (fun _ => rfl) (fun _ => rfl)) hf509_ (fun _ => rfl) (fun _ => rfl)) (WISHR_fr (WISHR_fr hg8 hf507_ (fun _ => rfl) (fun _ => rfl) (fun _ => rfl) (fun _ => rfl)) hf509_ (fun _ => rfl) (fun _ => rfl) (fun _ => rfl) (fun _ => rfl)) (show a509_ 0 0 = a509_ 146 0 from by omega) (show a509_ 4 6 = a509_ 146 2 from by omega) (show a509_ 2 1 = a509_ 146 22 from by omega) (show a509_ 105 5 = a509_ 146 68 from by omega)
theorem lw_op559 (E : jxE) (d : Nat) (hd : Nat.ble 60 (d + 1) = true) (hL : E.1 ≤ 3072) (y3 : Int) (hy0 : 0 ≤ y3) (hy1 : y3 + 6 ≤ E.1) (hnext : ∀ (a b : Nat → Nat → Int) (hv : iv a) (hg0 : WFW a) (hg1 : SV a) (hg2 : OC a) (hg3 : FO a) (hg4 : FW a) (hg5 : TAPE a) (hg6 : MEMR a) (hg7 : FARR a) (hg8 : WISHR a) (hr0 : a 0 0 = a 146 0) (hr1 : a 4 6 = a 146 2) (hr2 : a 2 1 = a 146 22) (hr3 : a 105 5 = a 146 68), jt (jxX E d 305 1189 [some (.inr (.inr (.inl 3000))), some (.inr (.inr (.inl 0))), some (.inr (.inr (.inl 146))), some (.inl y3)] [] (jxSH, a, b)) (fun v _ _ => v = [.inl 1])) (a b : Nat → Nat → Int) (hv : iv a) (hg0 : WFW a) (hg1 : SV a) (hg2 : OC a) (hg3 : FO a) (hg4 : FW a) (hg5 : TAPE a) (hg6 : MEMR a) (hg7 : FARR a) (hg8 : WISHR a) (hr0 : a 0 0 = a 146 0) (hr1 : a 4 6 = a 146 2) (hr2 : a 2 1 = a 146 22) (hr3 : a 105 5 = a 146 68) : jt (jxX E d 305 559 [some (.inr (.inr (.inl 3000))), some (.inr (.inr (.inl 0))), some (.inr (.inr (.inl 146))), some (.inl y3)] [] (jxSH, a, b)) (fun v _ _ => v = [.inl 1]) := by
  refine jt_eq (bq_law_559 E d y3 a b) ?_
  have h545_ := iv_get hv (k := 0) (j := 0) (l := 0) (u := 1999) rfl
  have h546_ := iv_get hv (k := 146) (j := 0) (l := 0) (u := 1999) rfl
  have h547_ := iv_get hv (k := 4) (j := 6) (l := 0) (u := 40) rfl
  have h548_ := iv_get hv (k := 146) (j := 2) (l := 0) (u := 40) rfl
  have h549_ := iv_get hv (k := 2) (j := 1) (l := 0) (u := 200) rfl
  have h550_ := iv_get hv (k := 146) (j := 22) (l := 0) (u := 200) rfl
  have h551_ := iv_get hv (k := 105) (j := 5) (l := 0) (u := 10) rfl
  have h552_ := iv_get hv (k := 146) (j := 68) (l := 0) (u := 10) rfl
  refine jt_bif (Nat.ble_eq_true_of_le (by omega)) ?_
  have h553_ : jxw (y3 + 1) = y3 + 1 := jxw_id (by omega) (by omega)
  refine jt_grd (by omega) ?_
  refine jt_bif (Nat.ble_eq_true_of_le (by omega)) ?_
  have h554_ : jxw (y3 + 2) = y3 + 2 := jxw_id (by omega) (by omega)
  refine jt_grd (by omega) ?_
  refine jt_bI (sp_X11_arrive E d (jd_le hd rfl) (E.2 ((jxw (y3 + 1)).toNat)) (E.2 ((jxw (y3 + 2)).toNat)) a b hv) (fun r555_ a555_ b555_ h555_ => ?_)
  obtain ⟨hv555_, hf555_, rfl, hq555_0, hq555_1⟩ := h555_
  have h556_ := iv_get hv (k := 58) (j := 8) (l := 0) (u := 300) rfl
  refine jt_eq (bq_law_574 E d y3 a555_ b) ?_
  refine jt_bif (Nat.ble_eq_true_of_le (by omega)) ?_
  refine jt_grd (by omega) ?_
  refine jt_bif (Nat.ble_eq_true_of_le (by omega)) ?_
  refine jt_grd (by omega) ?_
  refine jt_bI (sp_X12_arrive E d (jd_le hd rfl) (E.2 ((jxw (y3 + 1)).toNat)) (E.2 ((jxw (y3 + 2)).toNat)) a555_ b hv555_) (fun r557_ a557_ b557_ h557_ => ?_)
  obtain ⟨hv557_, hf557_, rfl, hq557_0, hq557_1⟩ := h557_
  have h558_ := iv_get hv555_ (k := 146) (j := 9) (l := 0) (u := 300) rfl
  have h559_ : a555_ 146 9 = a 146 9 := hf555_ 146 9 rfl
  have h560_ := iv_get hv (k := 146) (j := 9) (l := 0) (u := 300) rfl
  have h561_ := iv_get hv557_ (k := 0) (j := 0) (l := 0) (u := 1999) rfl
  have h562_ : a557_ 0 0 = a555_ 0 0 := hf557_ 0 0 rfl
  have h563_ := iv_get hv555_ (k := 0) (j := 0) (l := 0) (u := 1999) rfl
  have h564_ : a555_ 0 0 = a 0 0 := hf555_ 0 0 rfl
  have h565_ := iv_get hv557_ (k := 146) (j := 0) (l := 0) (u := 1999) rfl
  have h566_ : a557_ 146 0 = a555_ 146 0 := hf557_ 146 0 rfl
  have h567_ := iv_get hv555_ (k := 146) (j := 0) (l := 0) (u := 1999) rfl
  have h568_ : a555_ 146 0 = a 146 0 := hf555_ 146 0 rfl
  have h569_ := iv_get hv557_ (k := 4) (j := 6) (l := 0) (u := 40) rfl
  have h570_ : a557_ 4 6 = a555_ 4 6 := hf557_ 4 6 rfl
  have h571_ := iv_get hv555_ (k := 4) (j := 6) (l := 0) (u := 40) rfl
  have h572_ : a555_ 4 6 = a 4 6 := hf555_ 4 6 rfl
  have h573_ := iv_get hv557_ (k := 146) (j := 2) (l := 0) (u := 40) rfl
  have h574_ : a557_ 146 2 = a555_ 146 2 := hf557_ 146 2 rfl
  have h575_ := iv_get hv555_ (k := 146) (j := 2) (l := 0) (u := 40) rfl
  have h576_ : a555_ 146 2 = a 146 2 := hf555_ 146 2 rfl
  have h577_ := iv_get hv557_ (k := 2) (j := 1) (l := 0) (u := 200) rfl
  have h578_ : a557_ 2 1 = a555_ 2 1 := hf557_ 2 1 rfl
  have h579_ := iv_get hv555_ (k := 2) (j := 1) (l := 0) (u := 200) rfl
  have h580_ : a555_ 2 1 = a 2 1 := hf555_ 2 1 rfl
  have h581_ := iv_get hv557_ (k := 146) (j := 22) (l := 0) (u := 200) rfl
  have h582_ : a557_ 146 22 = a555_ 146 22 := hf557_ 146 22 rfl
  have h583_ := iv_get hv555_ (k := 146) (j := 22) (l := 0) (u := 200) rfl
  have h584_ : a555_ 146 22 = a 146 22 := hf555_ 146 22 rfl
  have h585_ := iv_get hv557_ (k := 105) (j := 5) (l := 0) (u := 10) rfl
  have h586_ : a557_ 105 5 = a555_ 105 5 := hf557_ 105 5 rfl
  have h587_ := iv_get hv555_ (k := 105) (j := 5) (l := 0) (u := 10) rfl
  have h588_ : a555_ 105 5 = a 105 5 := hf555_ 105 5 rfl
  have h589_ := iv_get hv557_ (k := 146) (j := 68) (l := 0) (u := 10) rfl
  have h590_ : a557_ 146 68 = a555_ 146 68 := hf557_ 146 68 rfl
  have h591_ := iv_get hv555_ (k := 146) (j := 68) (l := 0) (u := 10) rfl
  have h592_ : a555_ 146 68 = a 146 68 := hf555_ 146 68 rfl
  exact hnext a557_ b hv557_ (WFW_fr (WFW_fr hg0 hf555_ (fun _ => rfl) (fun _ => rfl)) hf557_ (fun _ => rfl) (fun _ => rfl)) (SV_fr (SV_fr hg1 hf555_ (fun _ => rfl) (fun _ => rfl)) hf557_ (fun _ => rfl) (fun _ => rfl)) (OC_fr (OC_fr hg2 hf555_ rfl rfl (fun _ => rfl) (fun _ => rfl) (fun _ => rfl) (fun _ => rfl) (fun _ => rfl)) hf557_ rfl rfl (fun _ => rfl) (fun _ => rfl) (fun _ => rfl) (fun _ => rfl) (fun _ => rfl)) (FO_fr (FO_fr hg3 hf555_ rfl rfl (fun _ => rfl)) hf557_ rfl rfl (fun _ => rfl)) (FW_fr (FW_fr hg4 hf555_ rfl (fun _ => rfl)) hf557_ rfl (fun _ => rfl)) (TAPE_fr (TAPE_fr hg5 hf555_ (fun _ => rfl) (fun _ => rfl)) hf557_ (fun _ => rfl) (fun _ => rfl)) (MEMR_fr (MEMR_fr hg6 hf555_ (fun _ => rfl) (fun _ => rfl) (fun _ => rfl) (fun _ => rfl) (fun _ => rfl) (fun _ => rfl) (fun _ => rfl) (fun _ => rfl) (fun _ => rfl) (fun _ => rfl)) hf557_ (fun _ => rfl) (fun _ => rfl) (fun _ => rfl) (fun _ => rfl) (fun _ => rfl) (fun _ => rfl) (fun _ => rfl) (fun _ => rfl) (fun _ => rfl) (fun _ => rfl)) (FARR_fr (FARR_fr hg7 hf555_ (fun _ => rfl) (fun _ => rfl)) hf557_ (fun _ => rfl) (fun _ => rfl)) (WISHR_fr (WISHR_fr hg8 hf555_ (fun _ => rfl) (fun _ => rfl) (fun _ => rfl) (fun _ => rfl)) hf557_ (fun _ => rfl) (fun _ => rfl) (fun _ => rfl) (fun _ => rfl)) (show a557_ 0 0 = a557_ 146 0 from by omega) (show a557_ 4 6 = a557_ 146 2 from by omega) (show a557_ 2 1 = a557_ 146 22 from by omega) (show a557_ 105 5 = a557_ 146 68 from by omega)
theorem lw_op592 (E : jxE) (d : Nat) (hd : Nat.ble 60 (d + 1) = true) (hL : E.1 ≤ 3072) (y3 : Int) (hy0 : 0 ≤ y3) (hy1 : y3 + 6 ≤ E.1) (hnext : ∀ (a b : Nat → Nat → Int) (hv : iv a) (hg0 : WFW a) (hg1 : SV a) (hg2 : OC a) (hg3 : FO a) (hg4 : FW a) (hg5 : TAPE a) (hg6 : MEMR a) (hg7 : FARR a) (hg8 : WISHR a) (hr0 : a 0 0 = a 146 0) (hr1 : a 4 6 = a 146 2) (hr2 : a 2 1 = a 146 22) (hr3 : a 105 5 = a 146 68), jt (jxX E d 305 1189 [some (.inr (.inr (.inl 3000))), some (.inr (.inr (.inl 0))), some (.inr (.inr (.inl 146))), some (.inl y3)] [] (jxSH, a, b)) (fun v _ _ => v = [.inl 1])) (a b : Nat → Nat → Int) (hv : iv a) (hg0 : WFW a) (hg1 : SV a) (hg2 : OC a) (hg3 : FO a) (hg4 : FW a) (hg5 : TAPE a) (hg6 : MEMR a) (hg7 : FARR a) (hg8 : WISHR a) (hr0 : a 0 0 = a 146 0) (hr1 : a 4 6 = a 146 2) (hr2 : a 2 1 = a 146 22) (hr3 : a 105 5 = a 146 68) : jt (jxX E d 305 592 [some (.inr (.inr (.inl 3000))), some (.inr (.inr (.inl 0))), some (.inr (.inr (.inl 146))), some (.inl y3)] [] (jxSH, a, b)) (fun v _ _ => v = [.inl 1]) := by
  refine jt_eq (bq_law_592 E d y3 a b) ?_
  have h593_ := iv_get hv (k := 0) (j := 0) (l := 0) (u := 1999) rfl
  have h594_ := iv_get hv (k := 146) (j := 0) (l := 0) (u := 1999) rfl
  have h595_ := iv_get hv (k := 4) (j := 6) (l := 0) (u := 40) rfl
  have h596_ := iv_get hv (k := 146) (j := 2) (l := 0) (u := 40) rfl
  have h597_ := iv_get hv (k := 2) (j := 1) (l := 0) (u := 200) rfl
  have h598_ := iv_get hv (k := 146) (j := 22) (l := 0) (u := 200) rfl
  have h599_ := iv_get hv (k := 105) (j := 5) (l := 0) (u := 10) rfl
  have h600_ := iv_get hv (k := 146) (j := 68) (l := 0) (u := 10) rfl
  refine jt_bif (Nat.ble_eq_true_of_le (by omega)) ?_
  have h601_ : jxw (y3 + 1) = y3 + 1 := jxw_id (by omega) (by omega)
  refine jt_grd (by omega) ?_
  refine jt_bI (sp_X11_back E d (jd_le hd rfl) (E.2 ((jxw (y3 + 1)).toNat)) a b hv) (fun r602_ a602_ b602_ h602_ => ?_)
  obtain ⟨hv602_, hf602_, rfl, hq602_0, hq602_1⟩ := h602_
  have h603_ := iv_get hv (k := 58) (j := 8) (l := 0) (u := 300) rfl
  refine jt_eq (bq_law_602 E d y3 a602_ b) ?_
  refine jt_bif (Nat.ble_eq_true_of_le (by omega)) ?_
  refine jt_grd (by omega) ?_
  refine jt_bI (sp_X12_back E d (jd_le hd rfl) (E.2 ((jxw (y3 + 1)).toNat)) a602_ b hv602_) (fun r604_ a604_ b604_ h604_ => ?_)
  obtain ⟨hv604_, hf604_, rfl, hq604_0, hq604_1⟩ := h604_
  have h605_ := iv_get hv602_ (k := 146) (j := 9) (l := 0) (u := 300) rfl
  have h606_ : a602_ 146 9 = a 146 9 := hf602_ 146 9 rfl
  have h607_ := iv_get hv (k := 146) (j := 9) (l := 0) (u := 300) rfl
  have h608_ := iv_get hv604_ (k := 0) (j := 0) (l := 0) (u := 1999) rfl
  have h609_ : a604_ 0 0 = a602_ 0 0 := hf604_ 0 0 rfl
  have h610_ := iv_get hv602_ (k := 0) (j := 0) (l := 0) (u := 1999) rfl
  have h611_ : a602_ 0 0 = a 0 0 := hf602_ 0 0 rfl
  have h612_ := iv_get hv604_ (k := 146) (j := 0) (l := 0) (u := 1999) rfl
  have h613_ : a604_ 146 0 = a602_ 146 0 := hf604_ 146 0 rfl
  have h614_ := iv_get hv602_ (k := 146) (j := 0) (l := 0) (u := 1999) rfl
  have h615_ : a602_ 146 0 = a 146 0 := hf602_ 146 0 rfl
  have h616_ := iv_get hv604_ (k := 4) (j := 6) (l := 0) (u := 40) rfl
  have h617_ : a604_ 4 6 = a602_ 4 6 := hf604_ 4 6 rfl
  have h618_ := iv_get hv602_ (k := 4) (j := 6) (l := 0) (u := 40) rfl
  have h619_ : a602_ 4 6 = a 4 6 := hf602_ 4 6 rfl
  have h620_ := iv_get hv604_ (k := 146) (j := 2) (l := 0) (u := 40) rfl
  have h621_ : a604_ 146 2 = a602_ 146 2 := hf604_ 146 2 rfl
  have h622_ := iv_get hv602_ (k := 146) (j := 2) (l := 0) (u := 40) rfl
  have h623_ : a602_ 146 2 = a 146 2 := hf602_ 146 2 rfl
  have h624_ := iv_get hv604_ (k := 2) (j := 1) (l := 0) (u := 200) rfl
  have h625_ : a604_ 2 1 = a602_ 2 1 := hf604_ 2 1 rfl
  have h626_ := iv_get hv602_ (k := 2) (j := 1) (l := 0) (u := 200) rfl
  have h627_ : a602_ 2 1 = a 2 1 := hf602_ 2 1 rfl
  have h628_ := iv_get hv604_ (k := 146) (j := 22) (l := 0) (u := 200) rfl
  have h629_ : a604_ 146 22 = a602_ 146 22 := hf604_ 146 22 rfl
  have h630_ := iv_get hv602_ (k := 146) (j := 22) (l := 0) (u := 200) rfl
  have h631_ : a602_ 146 22 = a 146 22 := hf602_ 146 22 rfl
  have h632_ := iv_get hv604_ (k := 105) (j := 5) (l := 0) (u := 10) rfl
  have h633_ : a604_ 105 5 = a602_ 105 5 := hf604_ 105 5 rfl
  have h634_ := iv_get hv602_ (k := 105) (j := 5) (l := 0) (u := 10) rfl
  have h635_ : a602_ 105 5 = a 105 5 := hf602_ 105 5 rfl
  have h636_ := iv_get hv604_ (k := 146) (j := 68) (l := 0) (u := 10) rfl
  have h637_ : a604_ 146 68 = a602_ 146 68 := hf604_ 146 68 rfl
  have h638_ := iv_get hv602_ (k := 146) (j := 68) (l := 0) (u := 10) rfl
  have h639_ : a602_ 146 68 = a 146 68 := hf602_ 146 68 rfl
  exact hnext a604_ b hv604_ (WFW_fr (WFW_fr hg0 hf602_ (fun _ => rfl) (fun _ => rfl)) hf604_ (fun _ => rfl) (fun _ => rfl)) (SV_fr (SV_fr hg1 hf602_ (fun _ => rfl) (fun _ => rfl)) hf604_ (fun _ => rfl) (fun _ => rfl)) (OC_fr (OC_fr hg2 hf602_ rfl rfl (fun _ => rfl) (fun _ => rfl) (fun _ => rfl) (fun _ => rfl) (fun _ => rfl)) hf604_ rfl rfl (fun _ => rfl) (fun _ => rfl) (fun _ => rfl) (fun _ => rfl) (fun _ => rfl)) (FO_fr (FO_fr hg3 hf602_ rfl rfl (fun _ => rfl)) hf604_ rfl rfl (fun _ => rfl)) (FW_fr (FW_fr hg4 hf602_ rfl (fun _ => rfl)) hf604_ rfl (fun _ => rfl)) (TAPE_fr (TAPE_fr hg5 hf602_ (fun _ => rfl) (fun _ => rfl)) hf604_ (fun _ => rfl) (fun _ => rfl)) (MEMR_fr (MEMR_fr hg6 hf602_ (fun _ => rfl) (fun _ => rfl) (fun _ => rfl) (fun _ => rfl) (fun _ => rfl) (fun _ => rfl) (fun _ => rfl) (fun _ => rfl) (fun _ => rfl) (fun _ => rfl)) hf604_ (fun _ => rfl) (fun _ => rfl) (fun _ => rfl) (fun _ => rfl) (fun _ => rfl) (fun _ => rfl) (fun _ => rfl) (fun _ => rfl) (fun _ => rfl) (fun _ => rfl)) (FARR_fr (FARR_fr hg7 hf602_ (fun _ => rfl) (fun _ => rfl)) hf604_ (fun _ => rfl) (fun _ => rfl)) (WISHR_fr (WISHR_fr hg8 hf602_ (fun _ => rfl) (fun _ => rfl) (fun _ => rfl) (fun _ => rfl)) hf604_ (fun _ => rfl) (fun _ => rfl) (fun _ => rfl) (fun _ => rfl)) (show a604_ 0 0 = a604_ 146 0 from by omega) (show a604_ 4 6 = a604_ 146 2 from by omega) (show a604_ 2 1 = a604_ 146 22 from by omega) (show a604_ 105 5 = a604_ 146 68 from by omega)
theorem lw_op615 (E : jxE) (d : Nat) (hd : Nat.ble 60 (d + 1) = true) (hL : E.1 ≤ 3072) (y3 : Int) (hy0 : 0 ≤ y3) (hy1 : y3 + 6 ≤ E.1) (hnext : ∀ (a b : Nat → Nat → Int) (hv : iv a) (hg0 : WFW a) (hg1 : SV a) (hg2 : OC a) (hg3 : FO a) (hg4 : FW a) (hg5 : TAPE a) (hg6 : MEMR a) (hg7 : FARR a) (hg8 : WISHR a) (hr0 : a 0 0 = a 146 0) (hr1 : a 4 6 = a 146 2) (hr2 : a 2 1 = a 146 22) (hr3 : a 105 5 = a 146 68), jt (jxX E d 305 1189 [some (.inr (.inr (.inl 3000))), some (.inr (.inr (.inl 0))), some (.inr (.inr (.inl 146))), some (.inl y3)] [] (jxSH, a, b)) (fun v _ _ => v = [.inl 1])) (a b : Nat → Nat → Int) (hv : iv a) (hg0 : WFW a) (hg1 : SV a) (hg2 : OC a) (hg3 : FO a) (hg4 : FW a) (hg5 : TAPE a) (hg6 : MEMR a) (hg7 : FARR a) (hg8 : WISHR a) (hr0 : a 0 0 = a 146 0) (hr1 : a 4 6 = a 146 2) (hr2 : a 2 1 = a 146 22) (hr3 : a 105 5 = a 146 68) : jt (jxX E d 305 615 [some (.inr (.inr (.inl 3000))), some (.inr (.inr (.inl 0))), some (.inr (.inr (.inl 146))), some (.inl y3)] [] (jxSH, a, b)) (fun v _ _ => v = [.inl 1]) := by
  refine jt_eq (bq_law_615 E d y3 a b) ?_
  have h640_ := iv_get hv (k := 0) (j := 0) (l := 0) (u := 1999) rfl
  have h641_ := iv_get hv (k := 146) (j := 0) (l := 0) (u := 1999) rfl
  have h642_ := iv_get hv (k := 4) (j := 6) (l := 0) (u := 40) rfl
  have h643_ := iv_get hv (k := 146) (j := 2) (l := 0) (u := 40) rfl
  have h644_ := iv_get hv (k := 2) (j := 1) (l := 0) (u := 200) rfl
  have h645_ := iv_get hv (k := 146) (j := 22) (l := 0) (u := 200) rfl
  have h646_ := iv_get hv (k := 105) (j := 5) (l := 0) (u := 10) rfl
  have h647_ := iv_get hv (k := 146) (j := 68) (l := 0) (u := 10) rfl
  refine jt_bif (Nat.ble_eq_true_of_le (by omega)) ?_
  have h648_ : jxw (y3 + 1) = y3 + 1 := jxw_id (by omega) (by omega)
  refine jt_grd (by omega) ?_
  refine jt_bif (Nat.ble_eq_true_of_le (by omega)) ?_
  have h649_ : jxw (y3 + 2) = y3 + 2 := jxw_id (by omega) (by omega)
  refine jt_grd (by omega) ?_
  refine jt_eI (eq_X11_card E d (jd_le hd rfl) (E.2 ((jxw (y3 + 1)).toNat)) (E.2 ((jxw (y3 + 2)).toNat)) a b) ?_
  refine jt_eq (bq_law_630 E d y3 a b) ?_
  refine jt_bif (Nat.ble_eq_true_of_le (by omega)) ?_
  refine jt_grd (by omega) ?_
  refine jt_bif (Nat.ble_eq_true_of_le (by omega)) ?_
  refine jt_grd (by omega) ?_
  refine jt_bI (sp_X12_card E d (jd_le hd rfl) (E.2 ((jxw (y3 + 1)).toNat)) (E.2 ((jxw (y3 + 2)).toNat)) a b hv) (fun r650_ a650_ b650_ h650_ => ?_)
  obtain ⟨rfl, rfl, hq650_0⟩ := h650_
  have h651_ := iv_get hv (k := 146) (j := 9) (l := 0) (u := 300) rfl
  exact hnext a b hv hg0 hg1 hg2 hg3 hg4 hg5 hg6 hg7 hg8 (show a 0 0 = a 146 0 from by omega) (show a 4 6 = a 146 2 from by omega) (show a 2 1 = a 146 22 from by omega) (show a 105 5 = a 146 68 from by omega)
theorem lw_op648 (E : jxE) (d : Nat) (hd : Nat.ble 60 (d + 1) = true) (hL : E.1 ≤ 3072) (y3 : Int) (hy0 : 0 ≤ y3) (hy1 : y3 + 6 ≤ E.1) (hnext : ∀ (a b : Nat → Nat → Int) (hv : iv a) (hg0 : WFW a) (hg1 : SV a) (hg2 : OC a) (hg3 : FO a) (hg4 : FW a) (hg5 : TAPE a) (hg6 : MEMR a) (hg7 : FARR a) (hg8 : WISHR a) (hr0 : a 0 0 = a 146 0) (hr1 : a 4 6 = a 146 2) (hr2 : a 2 1 = a 146 22) (hr3 : a 105 5 = a 146 68), jt (jxX E d 305 1189 [some (.inr (.inr (.inl 3000))), some (.inr (.inr (.inl 0))), some (.inr (.inr (.inl 146))), some (.inl y3)] [] (jxSH, a, b)) (fun v _ _ => v = [.inl 1])) (a b : Nat → Nat → Int) (hv : iv a) (hg0 : WFW a) (hg1 : SV a) (hg2 : OC a) (hg3 : FO a) (hg4 : FW a) (hg5 : TAPE a) (hg6 : MEMR a) (hg7 : FARR a) (hg8 : WISHR a) (hr0 : a 0 0 = a 146 0) (hr1 : a 4 6 = a 146 2) (hr2 : a 2 1 = a 146 22) (hr3 : a 105 5 = a 146 68) : jt (jxX E d 305 648 [some (.inr (.inr (.inl 3000))), some (.inr (.inr (.inl 0))), some (.inr (.inr (.inl 146))), some (.inl y3)] [] (jxSH, a, b)) (fun v _ _ => v = [.inl 1]) := by
  refine jt_eq (bq_law_648 E d y3 a b) ?_
  have h652_ := iv_get hv (k := 0) (j := 0) (l := 0) (u := 1999) rfl
  have h653_ := iv_get hv (k := 146) (j := 0) (l := 0) (u := 1999) rfl
  have h654_ := iv_get hv (k := 4) (j := 6) (l := 0) (u := 40) rfl
  have h655_ := iv_get hv (k := 146) (j := 2) (l := 0) (u := 40) rfl
  have h656_ := iv_get hv (k := 2) (j := 1) (l := 0) (u := 200) rfl
  have h657_ := iv_get hv (k := 146) (j := 22) (l := 0) (u := 200) rfl
  have h658_ := iv_get hv (k := 105) (j := 5) (l := 0) (u := 10) rfl
  have h659_ := iv_get hv (k := 146) (j := 68) (l := 0) (u := 10) rfl
  refine jt_bif (Nat.ble_eq_true_of_le (by omega)) ?_
  have h660_ : jxw (y3 + 1) = y3 + 1 := jxw_id (by omega) (by omega)
  refine jt_grd (by omega) ?_
  refine jt_bif (Nat.ble_eq_true_of_le (by omega)) ?_
  have h661_ : jxw (y3 + 2) = y3 + 2 := jxw_id (by omega) (by omega)
  refine jt_grd (by omega) ?_
  refine jt_bif (Nat.ble_eq_true_of_le (by omega)) ?_
  have h662_ : jxw (y3 + 3) = y3 + 3 := jxw_id (by omega) (by omega)
  refine jt_grd (by omega) ?_
  refine jt_bI (sp_X11_state E d (jd_le hd rfl) (E.2 ((jxw (y3 + 1)).toNat)) (E.2 ((jxw (y3 + 2)).toNat)) (E.2 ((jxw (y3 + 3)).toNat)) a b hv) (fun r663_ a663_ b663_ h663_ => ?_)
  obtain ⟨rfl, rfl, hq663_0⟩ := h663_
  have h664_ := iv_get hv (k := 58) (j := 8) (l := 0) (u := 300) rfl
  refine jt_eq (bq_law_668 E d y3 a b) ?_
  refine jt_bif (Nat.ble_eq_true_of_le (by omega)) ?_
  refine jt_grd (by omega) ?_
  refine jt_bif (Nat.ble_eq_true_of_le (by omega)) ?_
  refine jt_grd (by omega) ?_
  refine jt_bif (Nat.ble_eq_true_of_le (by omega)) ?_
  refine jt_grd (by omega) ?_
  refine jt_bI (sp_X12_state E d (jd_le hd rfl) (E.2 ((jxw (y3 + 1)).toNat)) (E.2 ((jxw (y3 + 2)).toNat)) (E.2 ((jxw (y3 + 3)).toNat)) a b hv) (fun r665_ a665_ b665_ h665_ => ?_)
  obtain ⟨rfl, rfl, hq665_0⟩ := h665_
  have h666_ := iv_get hv (k := 146) (j := 9) (l := 0) (u := 300) rfl
  refine jt_eq (bq_law_688 E d y3 a b) ?_
  exact hnext a b hv hg0 hg1 hg2 hg3 hg4 hg5 hg6 hg7 hg8 (show a 0 0 = a 146 0 from by omega) (show a 4 6 = a 146 2 from by omega) (show a 2 1 = a 146 22 from by omega) (show a 105 5 = a 146 68 from by omega)
theorem lw_op691 (E : jxE) (d : Nat) (hd : Nat.ble 60 (d + 1) = true) (hL : E.1 ≤ 3072) (y3 : Int) (hy0 : 0 ≤ y3) (hy1 : y3 + 6 ≤ E.1) (hnext : ∀ (a b : Nat → Nat → Int) (hv : iv a) (hg0 : WFW a) (hg1 : SV a) (hg2 : OC a) (hg3 : FO a) (hg4 : FW a) (hg5 : TAPE a) (hg6 : MEMR a) (hg7 : FARR a) (hg8 : WISHR a) (hr0 : a 0 0 = a 146 0) (hr1 : a 4 6 = a 146 2) (hr2 : a 2 1 = a 146 22) (hr3 : a 105 5 = a 146 68), jt (jxX E d 305 1189 [some (.inr (.inr (.inl 3000))), some (.inr (.inr (.inl 0))), some (.inr (.inr (.inl 146))), some (.inl y3)] [] (jxSH, a, b)) (fun v _ _ => v = [.inl 1])) (a b : Nat → Nat → Int) (hv : iv a) (hg0 : WFW a) (hg1 : SV a) (hg2 : OC a) (hg3 : FO a) (hg4 : FW a) (hg5 : TAPE a) (hg6 : MEMR a) (hg7 : FARR a) (hg8 : WISHR a) (hr0 : a 0 0 = a 146 0) (hr1 : a 4 6 = a 146 2) (hr2 : a 2 1 = a 146 22) (hr3 : a 105 5 = a 146 68) : jt (jxX E d 305 691 [some (.inr (.inr (.inl 3000))), some (.inr (.inr (.inl 0))), some (.inr (.inr (.inl 146))), some (.inl y3)] [] (jxSH, a, b)) (fun v _ _ => v = [.inl 1]) := by
  refine jt_eq (bq_law_691 E d y3 a b) ?_
  have h667_ := iv_get hv (k := 0) (j := 0) (l := 0) (u := 1999) rfl
  have h668_ := iv_get hv (k := 146) (j := 0) (l := 0) (u := 1999) rfl
  have h669_ := iv_get hv (k := 4) (j := 6) (l := 0) (u := 40) rfl
  have h670_ := iv_get hv (k := 146) (j := 2) (l := 0) (u := 40) rfl
  have h671_ := iv_get hv (k := 2) (j := 1) (l := 0) (u := 200) rfl
  have h672_ := iv_get hv (k := 146) (j := 22) (l := 0) (u := 200) rfl
  have h673_ := iv_get hv (k := 105) (j := 5) (l := 0) (u := 10) rfl
  have h674_ := iv_get hv (k := 146) (j := 68) (l := 0) (u := 10) rfl
  refine jt_bif (Nat.ble_eq_true_of_le (by omega)) ?_
  have h675_ : jxw (y3 + 1) = y3 + 1 := jxw_id (by omega) (by omega)
  refine jt_grd (by omega) ?_
  refine jt_bif (Nat.ble_eq_true_of_le (by omega)) ?_
  have h676_ : jxw (y3 + 2) = y3 + 2 := jxw_id (by omega) (by omega)
  refine jt_grd (by omega) ?_
  refine jt_bI (sp_X11_about E d (jd_le hd rfl) (E.2 ((jxw (y3 + 1)).toNat)) (E.2 ((jxw (y3 + 2)).toNat)) a b hv) (fun r677_ a677_ b677_ h677_ => ?_)
  obtain ⟨hv677_, hf677_, rfl, hq677_0⟩ := h677_
  refine jt_eq (bq_law_706 E d y3 a677_ b) ?_
  refine jt_bif (Nat.ble_eq_true_of_le (by omega)) ?_
  refine jt_grd (by omega) ?_
  refine jt_bif (Nat.ble_eq_true_of_le (by omega)) ?_
  refine jt_grd (by omega) ?_
  refine jt_bI (sp_X12_about E d (jd_le hd rfl) (E.2 ((jxw (y3 + 1)).toNat)) (E.2 ((jxw (y3 + 2)).toNat)) a677_ b hv677_) (fun r678_ a678_ b678_ h678_ => ?_)
  obtain ⟨rfl, rfl, hq678_0⟩ := h678_
  have h679_ := iv_get hv677_ (k := 146) (j := 2) (l := 0) (u := 40) rfl
  have h680_ : a677_ 146 2 = a 146 2 := hf677_ 146 2 rfl
  have h681_ := iv_get hv677_ (k := 0) (j := 0) (l := 0) (u := 1999) rfl
  have h682_ : a677_ 0 0 = a 0 0 := hf677_ 0 0 rfl
  have h683_ := iv_get hv677_ (k := 146) (j := 0) (l := 0) (u := 1999) rfl
  have h684_ : a677_ 146 0 = a 146 0 := hf677_ 146 0 rfl
  have h685_ := iv_get hv677_ (k := 4) (j := 6) (l := 0) (u := 40) rfl
  have h686_ : a677_ 4 6 = a 4 6 := hf677_ 4 6 rfl
  have h687_ := iv_get hv677_ (k := 2) (j := 1) (l := 0) (u := 200) rfl
  have h688_ : a677_ 2 1 = a 2 1 := hf677_ 2 1 rfl
  have h689_ := iv_get hv677_ (k := 146) (j := 22) (l := 0) (u := 200) rfl
  have h690_ : a677_ 146 22 = a 146 22 := hf677_ 146 22 rfl
  have h691_ := iv_get hv677_ (k := 105) (j := 5) (l := 0) (u := 10) rfl
  have h692_ : a677_ 105 5 = a 105 5 := hf677_ 105 5 rfl
  have h693_ := iv_get hv677_ (k := 146) (j := 68) (l := 0) (u := 10) rfl
  have h694_ : a677_ 146 68 = a 146 68 := hf677_ 146 68 rfl
  exact hnext a677_ b hv677_ (WFW_fr hg0 hf677_ (fun _ => rfl) (fun _ => rfl)) (SV_fr hg1 hf677_ (fun _ => rfl) (fun _ => rfl)) (OC_fr hg2 hf677_ rfl rfl (fun _ => rfl) (fun _ => rfl) (fun _ => rfl) (fun _ => rfl) (fun _ => rfl)) (FO_fr hg3 hf677_ rfl rfl (fun _ => rfl)) (FW_fr hg4 hf677_ rfl (fun _ => rfl)) (TAPE_fr hg5 hf677_ (fun _ => rfl) (fun _ => rfl)) (MEMR_fr hg6 hf677_ (fun _ => rfl) (fun _ => rfl) (fun _ => rfl) (fun _ => rfl) (fun _ => rfl) (fun _ => rfl) (fun _ => rfl) (fun _ => rfl) (fun _ => rfl) (fun _ => rfl)) (FARR_fr hg7 hf677_ (fun _ => rfl) (fun _ => rfl)) (WISHR_fr hg8 hf677_ (fun _ => rfl) (fun _ => rfl) (fun _ => rfl) (fun _ => rfl)) (show a677_ 0 0 = a677_ 146 0 from by omega) (show a677_ 4 6 = a677_ 146 2 from by omega) (show a677_ 2 1 = a677_ 146 22 from by omega) (show a677_ 105 5 = a677_ 146 68 from by omega)
theorem lw_op724 (E : jxE) (d : Nat) (hd : Nat.ble 60 (d + 1) = true) (hL : E.1 ≤ 3072) (y3 : Int) (hy0 : 0 ≤ y3) (hy1 : y3 + 6 ≤ E.1) (hnext : ∀ (a b : Nat → Nat → Int) (hv : iv a) (hg0 : WFW a) (hg1 : SV a) (hg2 : OC a) (hg3 : FO a) (hg4 : FW a) (hg5 : TAPE a) (hg6 : MEMR a) (hg7 : FARR a) (hg8 : WISHR a) (hr0 : a 0 0 = a 146 0) (hr1 : a 4 6 = a 146 2) (hr2 : a 2 1 = a 146 22) (hr3 : a 105 5 = a 146 68), jt (jxX E d 305 1189 [some (.inr (.inr (.inl 3000))), some (.inr (.inr (.inl 0))), some (.inr (.inr (.inl 146))), some (.inl y3)] [] (jxSH, a, b)) (fun v _ _ => v = [.inl 1])) (a b : Nat → Nat → Int) (hv : iv a) (hg0 : WFW a) (hg1 : SV a) (hg2 : OC a) (hg3 : FO a) (hg4 : FW a) (hg5 : TAPE a) (hg6 : MEMR a) (hg7 : FARR a) (hg8 : WISHR a) (hr0 : a 0 0 = a 146 0) (hr1 : a 4 6 = a 146 2) (hr2 : a 2 1 = a 146 22) (hr3 : a 105 5 = a 146 68) : jt (jxX E d 305 724 [some (.inr (.inr (.inl 3000))), some (.inr (.inr (.inl 0))), some (.inr (.inr (.inl 146))), some (.inl y3)] [] (jxSH, a, b)) (fun v _ _ => v = [.inl 1]) := by
  refine jt_eq (bq_law_724 E d y3 a b) ?_
  have h695_ := iv_get hv (k := 0) (j := 0) (l := 0) (u := 1999) rfl
  have h696_ := iv_get hv (k := 146) (j := 0) (l := 0) (u := 1999) rfl
  have h697_ := iv_get hv (k := 4) (j := 6) (l := 0) (u := 40) rfl
  have h698_ := iv_get hv (k := 146) (j := 2) (l := 0) (u := 40) rfl
  have h699_ := iv_get hv (k := 2) (j := 1) (l := 0) (u := 200) rfl
  have h700_ := iv_get hv (k := 146) (j := 22) (l := 0) (u := 200) rfl
  have h701_ := iv_get hv (k := 105) (j := 5) (l := 0) (u := 10) rfl
  have h702_ := iv_get hv (k := 146) (j := 68) (l := 0) (u := 10) rfl
  refine jt_bif (Nat.ble_eq_true_of_le (by omega)) ?_
  have h703_ : jxw (y3 + 1) = y3 + 1 := jxw_id (by omega) (by omega)
  refine jt_grd (by omega) ?_
  refine jt_bI (sp_X11_album E d (jd_le hd rfl) (E.2 ((jxw (y3 + 1)).toNat)) a b hv) (fun r704_ a704_ b704_ h704_ => ?_)
  obtain ⟨rfl, rfl, hq704_0⟩ := h704_
  refine jt_eq (bq_law_734 E d y3 a b) ?_
  refine jt_bif (Nat.ble_eq_true_of_le (by omega)) ?_
  refine jt_grd (by omega) ?_
  refine jt_bI (sp_X12_album E d (jd_le hd rfl) (E.2 ((jxw (y3 + 1)).toNat)) a b hv) (fun r705_ a705_ b705_ h705_ => ?_)
  obtain ⟨rfl, rfl, hq705_0⟩ := h705_
  exact hnext a b hv hg0 hg1 hg2 hg3 hg4 hg5 hg6 hg7 hg8 (show a 0 0 = a 146 0 from by omega) (show a 4 6 = a 146 2 from by omega) (show a 2 1 = a 146 22 from by omega) (show a 105 5 = a 146 68 from by omega)
theorem lw_op747 (E : jxE) (d : Nat) (hd : Nat.ble 60 (d + 1) = true) (hL : E.1 ≤ 3072) (y3 : Int) (hy0 : 0 ≤ y3) (hy1 : y3 + 6 ≤ E.1) (hnext : ∀ (a b : Nat → Nat → Int) (hv : iv a) (hg0 : WFW a) (hg1 : SV a) (hg2 : OC a) (hg3 : FO a) (hg4 : FW a) (hg5 : TAPE a) (hg6 : MEMR a) (hg7 : FARR a) (hg8 : WISHR a) (hr0 : a 0 0 = a 146 0) (hr1 : a 4 6 = a 146 2) (hr2 : a 2 1 = a 146 22) (hr3 : a 105 5 = a 146 68), jt (jxX E d 305 1189 [some (.inr (.inr (.inl 3000))), some (.inr (.inr (.inl 0))), some (.inr (.inr (.inl 146))), some (.inl y3)] [] (jxSH, a, b)) (fun v _ _ => v = [.inl 1])) (a b : Nat → Nat → Int) (hv : iv a) (hg0 : WFW a) (hg1 : SV a) (hg2 : OC a) (hg3 : FO a) (hg4 : FW a) (hg5 : TAPE a) (hg6 : MEMR a) (hg7 : FARR a) (hg8 : WISHR a) (hr0 : a 0 0 = a 146 0) (hr1 : a 4 6 = a 146 2) (hr2 : a 2 1 = a 146 22) (hr3 : a 105 5 = a 146 68) : jt (jxX E d 305 747 [some (.inr (.inr (.inl 3000))), some (.inr (.inr (.inl 0))), some (.inr (.inr (.inl 146))), some (.inl y3)] [] (jxSH, a, b)) (fun v _ _ => v = [.inl 1]) := by
  refine jt_eq (bq_law_747 E d y3 a b) ?_
  have h706_ := iv_get hv (k := 0) (j := 0) (l := 0) (u := 1999) rfl
  have h707_ := iv_get hv (k := 146) (j := 0) (l := 0) (u := 1999) rfl
  have h708_ := iv_get hv (k := 4) (j := 6) (l := 0) (u := 40) rfl
  have h709_ := iv_get hv (k := 146) (j := 2) (l := 0) (u := 40) rfl
  have h710_ := iv_get hv (k := 2) (j := 1) (l := 0) (u := 200) rfl
  have h711_ := iv_get hv (k := 146) (j := 22) (l := 0) (u := 200) rfl
  have h712_ := iv_get hv (k := 105) (j := 5) (l := 0) (u := 10) rfl
  have h713_ := iv_get hv (k := 146) (j := 68) (l := 0) (u := 10) rfl
  refine jt_bif (Nat.ble_eq_true_of_le (by omega)) ?_
  have h714_ : jxw (y3 + 1) = y3 + 1 := jxw_id (by omega) (by omega)
  refine jt_grd (by omega) ?_
  refine jt_bif (Nat.ble_eq_true_of_le (by omega)) ?_
  have h715_ : jxw (y3 + 2) = y3 + 2 := jxw_id (by omega) (by omega)
  refine jt_grd (by omega) ?_
  refine jt_bif (Nat.ble_eq_true_of_le (by omega)) ?_
  have h716_ : jxw (y3 + 3) = y3 + 3 := jxw_id (by omega) (by omega)
  refine jt_grd (by omega) ?_
  refine jt_bI (sp_X11_span E d (jd_le hd rfl) (E.2 ((jxw (y3 + 1)).toNat)) (E.2 ((jxw (y3 + 2)).toNat)) (E.2 ((jxw (y3 + 3)).toNat)) a b hv) (fun r717_ a717_ b717_ h717_ => ?_)
  obtain ⟨hv717_, hf717_, rfl, hq717_0⟩ := h717_
  have h718_ := iv_get hv (k := 58) (j := 12) (l := 0) (u := 600) rfl
  refine jt_eq (bq_law_767 E d y3 a717_ b) ?_
  refine jt_bif (Nat.ble_eq_true_of_le (by omega)) ?_
  refine jt_grd (by omega) ?_
  refine jt_bif (Nat.ble_eq_true_of_le (by omega)) ?_
  refine jt_grd (by omega) ?_
  refine jt_bif (Nat.ble_eq_true_of_le (by omega)) ?_
  refine jt_grd (by omega) ?_
  refine jt_bI (sp_X12_span E d (jd_le hd rfl) (E.2 ((jxw (y3 + 1)).toNat)) (E.2 ((jxw (y3 + 2)).toNat)) (E.2 ((jxw (y3 + 3)).toNat)) a717_ b hv717_) (fun r719_ a719_ b719_ h719_ => ?_)
  obtain ⟨hv719_, hf719_, rfl, hq719_0⟩ := h719_
  have h720_ := iv_get hv717_ (k := 146) (j := 17) (l := 0) (u := 600) rfl
  have h721_ : a717_ 146 17 = a 146 17 := hf717_ 146 17 rfl
  have h722_ := iv_get hv (k := 146) (j := 17) (l := 0) (u := 600) rfl
  refine jt_eq (bq_law_787 E d y3 a719_ b) ?_
  have h723_ := iv_get hv719_ (k := 0) (j := 0) (l := 0) (u := 1999) rfl
  have h724_ : a719_ 0 0 = a717_ 0 0 := hf719_ 0 0 rfl
  have h725_ := iv_get hv717_ (k := 0) (j := 0) (l := 0) (u := 1999) rfl
  have h726_ : a717_ 0 0 = a 0 0 := hf717_ 0 0 rfl
  have h727_ := iv_get hv719_ (k := 146) (j := 0) (l := 0) (u := 1999) rfl
  have h728_ : a719_ 146 0 = a717_ 146 0 := hf719_ 146 0 rfl
  have h729_ := iv_get hv717_ (k := 146) (j := 0) (l := 0) (u := 1999) rfl
  have h730_ : a717_ 146 0 = a 146 0 := hf717_ 146 0 rfl
  have h731_ := iv_get hv719_ (k := 4) (j := 6) (l := 0) (u := 40) rfl
  have h732_ : a719_ 4 6 = a717_ 4 6 := hf719_ 4 6 rfl
  have h733_ := iv_get hv717_ (k := 4) (j := 6) (l := 0) (u := 40) rfl
  have h734_ : a717_ 4 6 = a 4 6 := hf717_ 4 6 rfl
  have h735_ := iv_get hv719_ (k := 146) (j := 2) (l := 0) (u := 40) rfl
  have h736_ : a719_ 146 2 = a717_ 146 2 := hf719_ 146 2 rfl
  have h737_ := iv_get hv717_ (k := 146) (j := 2) (l := 0) (u := 40) rfl
  have h738_ : a717_ 146 2 = a 146 2 := hf717_ 146 2 rfl
  have h739_ := iv_get hv719_ (k := 2) (j := 1) (l := 0) (u := 200) rfl
  have h740_ : a719_ 2 1 = a717_ 2 1 := hf719_ 2 1 rfl
  have h741_ := iv_get hv717_ (k := 2) (j := 1) (l := 0) (u := 200) rfl
  have h742_ : a717_ 2 1 = a 2 1 := hf717_ 2 1 rfl
  have h743_ := iv_get hv719_ (k := 146) (j := 22) (l := 0) (u := 200) rfl
  have h744_ : a719_ 146 22 = a717_ 146 22 := hf719_ 146 22 rfl
  have h745_ := iv_get hv717_ (k := 146) (j := 22) (l := 0) (u := 200) rfl
  have h746_ : a717_ 146 22 = a 146 22 := hf717_ 146 22 rfl
  have h747_ := iv_get hv719_ (k := 105) (j := 5) (l := 0) (u := 10) rfl
  have h748_ : a719_ 105 5 = a717_ 105 5 := hf719_ 105 5 rfl
  have h749_ := iv_get hv717_ (k := 105) (j := 5) (l := 0) (u := 10) rfl
  have h750_ : a717_ 105 5 = a 105 5 := hf717_ 105 5 rfl
  have h751_ := iv_get hv719_ (k := 146) (j := 68) (l := 0) (u := 10) rfl
  have h752_ : a719_ 146 68 = a717_ 146 68 := hf719_ 146 68 rfl
  have h753_ := iv_get hv717_ (k := 146) (j := 68) (l := 0) (u := 10) rfl
  have h754_ : a717_ 146 68 = a 146 68 := hf717_ 146 68 rfl
  exact hnext a719_ b hv719_ (WFW_fr (WFW_fr hg0 hf717_ (fun _ => rfl) (fun _ => rfl)) hf719_ (fun _ => rfl) (fun _ => rfl)) (SV_fr (SV_fr hg1 hf717_ (fun _ => rfl) (fun _ => rfl)) hf719_ (fun _ => rfl) (fun _ => rfl)) (OC_fr (OC_fr hg2 hf717_ rfl rfl (fun _ => rfl) (fun _ => rfl) (fun _ => rfl) (fun _ => rfl) (fun _ => rfl)) hf719_ rfl rfl (fun _ => rfl) (fun _ => rfl) (fun _ => rfl) (fun _ => rfl) (fun _ => rfl)) (FO_fr (FO_fr hg3 hf717_ rfl rfl (fun _ => rfl)) hf719_ rfl rfl (fun _ => rfl)) (FW_fr (FW_fr hg4 hf717_ rfl (fun _ => rfl)) hf719_ rfl (fun _ => rfl)) (TAPE_fr (TAPE_fr hg5 hf717_ (fun _ => rfl) (fun _ => rfl)) hf719_ (fun _ => rfl) (fun _ => rfl)) (MEMR_fr (MEMR_fr hg6 hf717_ (fun _ => rfl) (fun _ => rfl) (fun _ => rfl) (fun _ => rfl) (fun _ => rfl) (fun _ => rfl) (fun _ => rfl) (fun _ => rfl) (fun _ => rfl) (fun _ => rfl)) hf719_ (fun _ => rfl) (fun _ => rfl) (fun _ => rfl) (fun _ => rfl) (fun _ => rfl) (fun _ => rfl) (fun _ => rfl) (fun _ => rfl) (fun _ => rfl) (fun _ => rfl)) (FARR_fr (FARR_fr hg7 hf717_ (fun _ => rfl) (fun _ => rfl)) hf719_ (fun _ => rfl) (fun _ => rfl)) (WISHR_fr (WISHR_fr hg8 hf717_ (fun _ => rfl) (fun _ => rfl) (fun _ => rfl) (fun _ => rfl)) hf719_ (fun _ => rfl) (fun _ => rfl) (fun _ => rfl) (fun _ => rfl)) (show a719_ 0 0 = a719_ 146 0 from by omega) (show a719_ 4 6 = a719_ 146 2 from by omega) (show a719_ 2 1 = a719_ 146 22 from by omega) (show a719_ 105 5 = a719_ 146 68 from by omega)
theorem lw_op790 (E : jxE) (d : Nat) (hd : Nat.ble 60 (d + 1) = true) (hL : E.1 ≤ 3072) (y3 : Int) (hy0 : 0 ≤ y3) (hy1 : y3 + 6 ≤ E.1) (hnext : ∀ (a b : Nat → Nat → Int) (hv : iv a) (hg0 : WFW a) (hg1 : SV a) (hg2 : OC a) (hg3 : FO a) (hg4 : FW a) (hg5 : TAPE a) (hg6 : MEMR a) (hg7 : FARR a) (hg8 : WISHR a) (hr0 : a 0 0 = a 146 0) (hr1 : a 4 6 = a 146 2) (hr2 : a 2 1 = a 146 22) (hr3 : a 105 5 = a 146 68), jt (jxX E d 305 1189 [some (.inr (.inr (.inl 3000))), some (.inr (.inr (.inl 0))), some (.inr (.inr (.inl 146))), some (.inl y3)] [] (jxSH, a, b)) (fun v _ _ => v = [.inl 1])) (a b : Nat → Nat → Int) (hv : iv a) (hg0 : WFW a) (hg1 : SV a) (hg2 : OC a) (hg3 : FO a) (hg4 : FW a) (hg5 : TAPE a) (hg6 : MEMR a) (hg7 : FARR a) (hg8 : WISHR a) (hr0 : a 0 0 = a 146 0) (hr1 : a 4 6 = a 146 2) (hr2 : a 2 1 = a 146 22) (hr3 : a 105 5 = a 146 68) : jt (jxX E d 305 790 [some (.inr (.inr (.inl 3000))), some (.inr (.inr (.inl 0))), some (.inr (.inr (.inl 146))), some (.inl y3)] [] (jxSH, a, b)) (fun v _ _ => v = [.inl 1]) := by
  refine jt_eq (bq_law_790 E d y3 a b) ?_
  have h755_ := iv_get hv (k := 0) (j := 0) (l := 0) (u := 1999) rfl
  have h756_ := iv_get hv (k := 146) (j := 0) (l := 0) (u := 1999) rfl
  have h757_ := iv_get hv (k := 4) (j := 6) (l := 0) (u := 40) rfl
  have h758_ := iv_get hv (k := 146) (j := 2) (l := 0) (u := 40) rfl
  have h759_ := iv_get hv (k := 2) (j := 1) (l := 0) (u := 200) rfl
  have h760_ := iv_get hv (k := 146) (j := 22) (l := 0) (u := 200) rfl
  have h761_ := iv_get hv (k := 105) (j := 5) (l := 0) (u := 10) rfl
  have h762_ := iv_get hv (k := 146) (j := 68) (l := 0) (u := 10) rfl
  refine jt_bif (Nat.ble_eq_true_of_le (by omega)) ?_
  have h763_ : jxw (y3 + 1) = y3 + 1 := jxw_id (by omega) (by omega)
  refine jt_grd (by omega) ?_
  refine jt_bif (Nat.ble_eq_true_of_le (by omega)) ?_
  have h764_ : jxw (y3 + 2) = y3 + 2 := jxw_id (by omega) (by omega)
  refine jt_grd (by omega) ?_
  refine jt_bif (Nat.ble_eq_true_of_le (by omega)) ?_
  have h765_ : jxw (y3 + 3) = y3 + 3 := jxw_id (by omega) (by omega)
  refine jt_grd (by omega) ?_
  refine jt_bI (sp_X11_offer E d (jd_le hd rfl) (E.2 ((jxw (y3 + 1)).toNat)) (E.2 ((jxw (y3 + 2)).toNat)) (E.2 ((jxw (y3 + 3)).toNat)) a b hv) (fun r766_ a766_ b766_ h766_ => ?_)
  obtain ⟨hv766_, hf766_, rfl, hq766_0, hq766_1⟩ := h766_
  have h767_ := iv_get hv (k := 83) (j := 6) (l := 0) (u := 20) rfl
  have h768_ := iv_get hv766_ (k := 83) (j := 6) (l := 0) (u := 20) rfl
  refine jt_eq (bq_law_810 E d y3 a766_ b) ?_
  refine jt_bif (Nat.ble_eq_true_of_le (by omega)) ?_
  refine jt_grd (by omega) ?_
  refine jt_bif (Nat.ble_eq_true_of_le (by omega)) ?_
  refine jt_grd (by omega) ?_
  refine jt_bif (Nat.ble_eq_true_of_le (by omega)) ?_
  refine jt_grd (by omega) ?_
  refine jt_bI (sp_X12_offer E d (jd_le hd rfl) (E.2 ((jxw (y3 + 1)).toNat)) (E.2 ((jxw (y3 + 2)).toNat)) (E.2 ((jxw (y3 + 3)).toNat)) a766_ b hv766_ (OC_fr hg2 hf766_ rfl rfl (fun _ => rfl) (fun _ => rfl) (fun _ => rfl) (fun _ => rfl) (fun _ => rfl)) (FO_fr hg3 hf766_ rfl rfl (fun _ => rfl)) (FW_fr hg4 hf766_ rfl (fun _ => rfl))) (fun r769_ a769_ b769_ h769_ => ?_)
  obtain ⟨hv769_, hf769_, rfl, hq769_0, hq769_1, hq769_2, hq769_3, hq769_4⟩ := h769_
  have h770_ := iv_get hv766_ (k := 146) (j := 2) (l := 0) (u := 40) rfl
  have h771_ : a766_ 146 2 = a 146 2 := hf766_ 146 2 rfl
  have h772_ := iv_get hv766_ (k := 152) (j := (E.2 ((jxw (y3 + 1)).toNat)).toNat) (l := 0) (u := 1) rfl
  have h773_ : a766_ 152 ((E.2 ((jxw (y3 + 1)).toNat)).toNat) = a 152 ((E.2 ((jxw (y3 + 1)).toNat)).toNat) := hf766_ 152 ((E.2 ((jxw (y3 + 1)).toNat)).toNat) rfl
  have h774_ := iv_get hv (k := 152) (j := (E.2 ((jxw (y3 + 1)).toNat)).toNat) (l := 0) (u := 1) rfl
  have h775_ := iv_get hv766_ (k := 146) (j := 49) (l := 0) (u := 20) rfl
  have h776_ : a766_ 146 49 = a 146 49 := hf766_ 146 49 rfl
  have h777_ := iv_get hv (k := 146) (j := 49) (l := 0) (u := 20) rfl
  have h778_ := iv_get hv769_ (k := 146) (j := 49) (l := 0) (u := 20) rfl
  refine jt_eq (bq_law_830 E d y3 a769_ b) ?_
  have h779_ := iv_get hv769_ (k := 0) (j := 0) (l := 0) (u := 1999) rfl
  have h780_ : a769_ 0 0 = a766_ 0 0 := hf769_ 0 0 rfl
  have h781_ := iv_get hv766_ (k := 0) (j := 0) (l := 0) (u := 1999) rfl
  have h782_ : a766_ 0 0 = a 0 0 := hf766_ 0 0 rfl
  have h783_ := iv_get hv769_ (k := 146) (j := 0) (l := 0) (u := 1999) rfl
  have h784_ : a769_ 146 0 = a766_ 146 0 := hf769_ 146 0 rfl
  have h785_ := iv_get hv766_ (k := 146) (j := 0) (l := 0) (u := 1999) rfl
  have h786_ : a766_ 146 0 = a 146 0 := hf766_ 146 0 rfl
  have h787_ := iv_get hv769_ (k := 4) (j := 6) (l := 0) (u := 40) rfl
  have h788_ : a769_ 4 6 = a766_ 4 6 := hf769_ 4 6 rfl
  have h789_ := iv_get hv766_ (k := 4) (j := 6) (l := 0) (u := 40) rfl
  have h790_ : a766_ 4 6 = a 4 6 := hf766_ 4 6 rfl
  have h791_ := iv_get hv769_ (k := 146) (j := 2) (l := 0) (u := 40) rfl
  have h792_ : a769_ 146 2 = a766_ 146 2 := hf769_ 146 2 rfl
  have h793_ := iv_get hv769_ (k := 2) (j := 1) (l := 0) (u := 200) rfl
  have h794_ : a769_ 2 1 = a766_ 2 1 := hf769_ 2 1 rfl
  have h795_ := iv_get hv766_ (k := 2) (j := 1) (l := 0) (u := 200) rfl
  have h796_ : a766_ 2 1 = a 2 1 := hf766_ 2 1 rfl
  have h797_ := iv_get hv769_ (k := 146) (j := 22) (l := 0) (u := 200) rfl
  have h798_ : a769_ 146 22 = a766_ 146 22 := hf769_ 146 22 rfl
  have h799_ := iv_get hv766_ (k := 146) (j := 22) (l := 0) (u := 200) rfl
  have h800_ : a766_ 146 22 = a 146 22 := hf766_ 146 22 rfl
  have h801_ := iv_get hv769_ (k := 105) (j := 5) (l := 0) (u := 10) rfl
  have h802_ : a769_ 105 5 = a766_ 105 5 := hf769_ 105 5 rfl
  have h803_ := iv_get hv766_ (k := 105) (j := 5) (l := 0) (u := 10) rfl
  have h804_ : a766_ 105 5 = a 105 5 := hf766_ 105 5 rfl
  have h805_ := iv_get hv769_ (k := 146) (j := 68) (l := 0) (u := 10) rfl
  have h806_ : a769_ 146 68 = a766_ 146 68 := hf769_ 146 68 rfl
  have h807_ := iv_get hv766_ (k := 146) (j := 68) (l := 0) (u := 10) rfl
  have h808_ : a766_ 146 68 = a 146 68 := hf766_ 146 68 rfl
  exact hnext a769_ b hv769_ (WFW_fr (WFW_fr hg0 hf766_ (fun _ => rfl) (fun _ => rfl)) hf769_ (fun _ => rfl) (fun _ => rfl)) (SV_fr (SV_fr hg1 hf766_ (fun _ => rfl) (fun _ => rfl)) hf769_ (fun _ => rfl) (fun _ => rfl)) hq769_0 hq769_1 hq769_2 (TAPE_fr (TAPE_fr hg5 hf766_ (fun _ => rfl) (fun _ => rfl)) hf769_ (fun _ => rfl) (fun _ => rfl)) (MEMR_fr (MEMR_fr hg6 hf766_ (fun _ => rfl) (fun _ => rfl) (fun _ => rfl) (fun _ => rfl) (fun _ => rfl) (fun _ => rfl) (fun _ => rfl) (fun _ => rfl) (fun _ => rfl) (fun _ => rfl)) hf769_ (fun _ => rfl) (fun _ => rfl) (fun _ => rfl) (fun _ => rfl) (fun _ => rfl) (fun _ => rfl) (fun _ => rfl) (fun _ => rfl) (fun _ => rfl) (fun _ => rfl)) (FARR_fr (FARR_fr hg7 hf766_ (fun _ => rfl) (fun _ => rfl)) hf769_ (fun _ => rfl) (fun _ => rfl)) (WISHR_fr (WISHR_fr hg8 hf766_ (fun _ => rfl) (fun _ => rfl) (fun _ => rfl) (fun _ => rfl)) hf769_ (fun _ => rfl) (fun _ => rfl) (fun _ => rfl) (fun _ => rfl)) (show a769_ 0 0 = a769_ 146 0 from by omega) (show a769_ 4 6 = a769_ 146 2 from by omega) (show a769_ 2 1 = a769_ 146 22 from by omega) (show a769_ 105 5 = a769_ 146 68 from by omega)
theorem lw_op833 (E : jxE) (d : Nat) (hd : Nat.ble 60 (d + 1) = true) (hL : E.1 ≤ 3072) (y3 : Int) (hy0 : 0 ≤ y3) (hy1 : y3 + 6 ≤ E.1) (hnext : ∀ (a b : Nat → Nat → Int) (hv : iv a) (hg0 : WFW a) (hg1 : SV a) (hg2 : OC a) (hg3 : FO a) (hg4 : FW a) (hg5 : TAPE a) (hg6 : MEMR a) (hg7 : FARR a) (hg8 : WISHR a) (hr0 : a 0 0 = a 146 0) (hr1 : a 4 6 = a 146 2) (hr2 : a 2 1 = a 146 22) (hr3 : a 105 5 = a 146 68), jt (jxX E d 305 1189 [some (.inr (.inr (.inl 3000))), some (.inr (.inr (.inl 0))), some (.inr (.inr (.inl 146))), some (.inl y3)] [] (jxSH, a, b)) (fun v _ _ => v = [.inl 1])) (a b : Nat → Nat → Int) (hv : iv a) (hg0 : WFW a) (hg1 : SV a) (hg2 : OC a) (hg3 : FO a) (hg4 : FW a) (hg5 : TAPE a) (hg6 : MEMR a) (hg7 : FARR a) (hg8 : WISHR a) (hr0 : a 0 0 = a 146 0) (hr1 : a 4 6 = a 146 2) (hr2 : a 2 1 = a 146 22) (hr3 : a 105 5 = a 146 68) : jt (jxX E d 305 833 [some (.inr (.inr (.inl 3000))), some (.inr (.inr (.inl 0))), some (.inr (.inr (.inl 146))), some (.inl y3)] [] (jxSH, a, b)) (fun v _ _ => v = [.inl 1]) := by
  refine jt_eq (bq_law_833 E d y3 a b) ?_
  have h809_ := iv_get hv (k := 0) (j := 0) (l := 0) (u := 1999) rfl
  have h810_ := iv_get hv (k := 146) (j := 0) (l := 0) (u := 1999) rfl
  have h811_ := iv_get hv (k := 4) (j := 6) (l := 0) (u := 40) rfl
  have h812_ := iv_get hv (k := 146) (j := 2) (l := 0) (u := 40) rfl
  have h813_ := iv_get hv (k := 2) (j := 1) (l := 0) (u := 200) rfl
  have h814_ := iv_get hv (k := 146) (j := 22) (l := 0) (u := 200) rfl
  have h815_ := iv_get hv (k := 105) (j := 5) (l := 0) (u := 10) rfl
  have h816_ := iv_get hv (k := 146) (j := 68) (l := 0) (u := 10) rfl
  refine jt_bif (Nat.ble_eq_true_of_le (by omega)) ?_
  have h817_ : jxw (y3 + 1) = y3 + 1 := jxw_id (by omega) (by omega)
  refine jt_grd (by omega) ?_
  refine jt_bI (sp_X11_away E d (jd_le hd rfl) (E.2 ((jxw (y3 + 1)).toNat)) a b hv) (fun r818_ a818_ b818_ h818_ => ?_)
  obtain ⟨hv818_, hf818_, rfl, hq818_0, hq818_1⟩ := h818_
  have h819_ := iv_get hv (k := 83) (j := 6) (l := 0) (u := 20) rfl
  refine jt_eq (bq_law_843 E d y3 a818_ b) ?_
  refine jt_bif (Nat.ble_eq_true_of_le (by omega)) ?_
  refine jt_grd (by omega) ?_
  refine jt_bI (sp_X12_away E d (jd_le hd rfl) (E.2 ((jxw (y3 + 1)).toNat)) a818_ b hv818_ (OC_fr hg2 hf818_ rfl rfl (fun _ => rfl) (fun _ => rfl) (fun _ => rfl) (fun _ => rfl) (fun _ => rfl))) (fun r820_ a820_ b820_ h820_ => ?_)
  obtain ⟨hv820_, hf820_, rfl, hq820_0, hq820_1, hq820_2⟩ := h820_
  have h821_ := iv_get hv818_ (k := 146) (j := 49) (l := 0) (u := 20) rfl
  have h822_ : a818_ 146 49 = a 146 49 := hf818_ 146 49 rfl
  have h823_ := iv_get hv (k := 146) (j := 49) (l := 0) (u := 20) rfl
  have h824_ := iv_get hv820_ (k := 0) (j := 0) (l := 0) (u := 1999) rfl
  have h825_ : a820_ 0 0 = a818_ 0 0 := hf820_ 0 0 rfl
  have h826_ := iv_get hv818_ (k := 0) (j := 0) (l := 0) (u := 1999) rfl
  have h827_ : a818_ 0 0 = a 0 0 := hf818_ 0 0 rfl
  have h828_ := iv_get hv820_ (k := 146) (j := 0) (l := 0) (u := 1999) rfl
  have h829_ : a820_ 146 0 = a818_ 146 0 := hf820_ 146 0 rfl
  have h830_ := iv_get hv818_ (k := 146) (j := 0) (l := 0) (u := 1999) rfl
  have h831_ : a818_ 146 0 = a 146 0 := hf818_ 146 0 rfl
  have h832_ := iv_get hv820_ (k := 4) (j := 6) (l := 0) (u := 40) rfl
  have h833_ : a820_ 4 6 = a818_ 4 6 := hf820_ 4 6 rfl
  have h834_ := iv_get hv818_ (k := 4) (j := 6) (l := 0) (u := 40) rfl
  have h835_ : a818_ 4 6 = a 4 6 := hf818_ 4 6 rfl
  have h836_ := iv_get hv820_ (k := 146) (j := 2) (l := 0) (u := 40) rfl
  have h837_ : a820_ 146 2 = a818_ 146 2 := hf820_ 146 2 rfl
  have h838_ := iv_get hv818_ (k := 146) (j := 2) (l := 0) (u := 40) rfl
  have h839_ : a818_ 146 2 = a 146 2 := hf818_ 146 2 rfl
  have h840_ := iv_get hv820_ (k := 2) (j := 1) (l := 0) (u := 200) rfl
  have h841_ : a820_ 2 1 = a818_ 2 1 := hf820_ 2 1 rfl
  have h842_ := iv_get hv818_ (k := 2) (j := 1) (l := 0) (u := 200) rfl
  have h843_ : a818_ 2 1 = a 2 1 := hf818_ 2 1 rfl
  have h844_ := iv_get hv820_ (k := 146) (j := 22) (l := 0) (u := 200) rfl
  have h845_ : a820_ 146 22 = a818_ 146 22 := hf820_ 146 22 rfl
  have h846_ := iv_get hv818_ (k := 146) (j := 22) (l := 0) (u := 200) rfl
  have h847_ : a818_ 146 22 = a 146 22 := hf818_ 146 22 rfl
  have h848_ := iv_get hv820_ (k := 105) (j := 5) (l := 0) (u := 10) rfl
  have h849_ : a820_ 105 5 = a818_ 105 5 := hf820_ 105 5 rfl
  have h850_ := iv_get hv818_ (k := 105) (j := 5) (l := 0) (u := 10) rfl
  have h851_ : a818_ 105 5 = a 105 5 := hf818_ 105 5 rfl
  have h852_ := iv_get hv820_ (k := 146) (j := 68) (l := 0) (u := 10) rfl
  have h853_ : a820_ 146 68 = a818_ 146 68 := hf820_ 146 68 rfl
  have h854_ := iv_get hv818_ (k := 146) (j := 68) (l := 0) (u := 10) rfl
  have h855_ : a818_ 146 68 = a 146 68 := hf818_ 146 68 rfl
  exact hnext a820_ b hv820_ (WFW_fr (WFW_fr hg0 hf818_ (fun _ => rfl) (fun _ => rfl)) hf820_ (fun _ => rfl) (fun _ => rfl)) (SV_fr (SV_fr hg1 hf818_ (fun _ => rfl) (fun _ => rfl)) hf820_ (fun _ => rfl) (fun _ => rfl)) hq820_1 (FO_fr (FO_fr hg3 hf818_ rfl rfl (fun _ => rfl)) hf820_ rfl rfl (fun _ => rfl)) (FW_fr (FW_fr hg4 hf818_ rfl (fun _ => rfl)) hf820_ rfl (fun _ => rfl)) (TAPE_fr (TAPE_fr hg5 hf818_ (fun _ => rfl) (fun _ => rfl)) hf820_ (fun _ => rfl) (fun _ => rfl)) (MEMR_fr (MEMR_fr hg6 hf818_ (fun _ => rfl) (fun _ => rfl) (fun _ => rfl) (fun _ => rfl) (fun _ => rfl) (fun _ => rfl) (fun _ => rfl) (fun _ => rfl) (fun _ => rfl) (fun _ => rfl)) hf820_ (fun _ => rfl) (fun _ => rfl) (fun _ => rfl) (fun _ => rfl) (fun _ => rfl) (fun _ => rfl) (fun _ => rfl) (fun _ => rfl) (fun _ => rfl) (fun _ => rfl)) (FARR_fr (FARR_fr hg7 hf818_ (fun _ => rfl) (fun _ => rfl)) hf820_ (fun _ => rfl) (fun _ => rfl)) (WISHR_fr (WISHR_fr hg8 hf818_ (fun _ => rfl) (fun _ => rfl) (fun _ => rfl) (fun _ => rfl)) hf820_ (fun _ => rfl) (fun _ => rfl) (fun _ => rfl) (fun _ => rfl)) (show a820_ 0 0 = a820_ 146 0 from by omega) (show a820_ 4 6 = a820_ 146 2 from by omega) (show a820_ 2 1 = a820_ 146 22 from by omega) (show a820_ 105 5 = a820_ 146 68 from by omega)
theorem lw_op856 (E : jxE) (d : Nat) (hd : Nat.ble 60 (d + 1) = true) (hL : E.1 ≤ 3072) (y3 : Int) (hy0 : 0 ≤ y3) (hy1 : y3 + 6 ≤ E.1) (hnext : ∀ (a b : Nat → Nat → Int) (hv : iv a) (hg0 : WFW a) (hg1 : SV a) (hg2 : OC a) (hg3 : FO a) (hg4 : FW a) (hg5 : TAPE a) (hg6 : MEMR a) (hg7 : FARR a) (hg8 : WISHR a) (hr0 : a 0 0 = a 146 0) (hr1 : a 4 6 = a 146 2) (hr2 : a 2 1 = a 146 22) (hr3 : a 105 5 = a 146 68), jt (jxX E d 305 1189 [some (.inr (.inr (.inl 3000))), some (.inr (.inr (.inl 0))), some (.inr (.inr (.inl 146))), some (.inl y3)] [] (jxSH, a, b)) (fun v _ _ => v = [.inl 1])) (a b : Nat → Nat → Int) (hv : iv a) (hg0 : WFW a) (hg1 : SV a) (hg2 : OC a) (hg3 : FO a) (hg4 : FW a) (hg5 : TAPE a) (hg6 : MEMR a) (hg7 : FARR a) (hg8 : WISHR a) (hr0 : a 0 0 = a 146 0) (hr1 : a 4 6 = a 146 2) (hr2 : a 2 1 = a 146 22) (hr3 : a 105 5 = a 146 68) : jt (jxX E d 305 856 [some (.inr (.inr (.inl 3000))), some (.inr (.inr (.inl 0))), some (.inr (.inr (.inl 146))), some (.inl y3)] [] (jxSH, a, b)) (fun v _ _ => v = [.inl 1]) := by
  refine jt_eq (bq_law_856 E d y3 a b) ?_
  have h856_ := iv_get hv (k := 0) (j := 0) (l := 0) (u := 1999) rfl
  have h857_ := iv_get hv (k := 146) (j := 0) (l := 0) (u := 1999) rfl
  have h858_ := iv_get hv (k := 4) (j := 6) (l := 0) (u := 40) rfl
  have h859_ := iv_get hv (k := 146) (j := 2) (l := 0) (u := 40) rfl
  have h860_ := iv_get hv (k := 2) (j := 1) (l := 0) (u := 200) rfl
  have h861_ := iv_get hv (k := 146) (j := 22) (l := 0) (u := 200) rfl
  have h862_ := iv_get hv (k := 105) (j := 5) (l := 0) (u := 10) rfl
  have h863_ := iv_get hv (k := 146) (j := 68) (l := 0) (u := 10) rfl
  refine jt_bI (sp_X11_rings E d (jd_le hd rfl) a b hv) (fun r864_ a864_ b864_ h864_ => ?_)
  obtain ⟨hv864_, hf864_, hq864_0⟩ := h864_
  have h865_ := iv_get hv (k := 83) (j := 6) (l := 0) (u := 20) rfl
  refine jt_eq (bq_law_861 E d y3 a864_ b864_) ?_
  refine jt_bI (sp_X12_rings E d (jd_le hd rfl) a864_ b864_ hv864_ (FO_fr hg3 hf864_ rfl rfl (fun _ => rfl)) (FW_fr hg4 hf864_ rfl (fun _ => rfl))) (fun r866_ a866_ b866_ h866_ => ?_)
  obtain ⟨hv866_, hf866_, rfl, hq866_0, hq866_1, hq866_2⟩ := h866_
  have h867_ := iv_get hv864_ (k := 146) (j := 49) (l := 0) (u := 20) rfl
  have h868_ : a864_ 146 49 = a 146 49 := hf864_ 146 49 rfl
  have h869_ := iv_get hv (k := 146) (j := 49) (l := 0) (u := 20) rfl
  have h870_ := iv_get hv866_ (k := 0) (j := 0) (l := 0) (u := 1999) rfl
  have h871_ : a866_ 0 0 = a864_ 0 0 := hf866_ 0 0 rfl
  have h872_ := iv_get hv864_ (k := 0) (j := 0) (l := 0) (u := 1999) rfl
  have h873_ : a864_ 0 0 = a 0 0 := hf864_ 0 0 rfl
  have h874_ := iv_get hv866_ (k := 146) (j := 0) (l := 0) (u := 1999) rfl
  have h875_ : a866_ 146 0 = a864_ 146 0 := hf866_ 146 0 rfl
  have h876_ := iv_get hv864_ (k := 146) (j := 0) (l := 0) (u := 1999) rfl
  have h877_ : a864_ 146 0 = a 146 0 := hf864_ 146 0 rfl
  have h878_ := iv_get hv866_ (k := 4) (j := 6) (l := 0) (u := 40) rfl
  have h879_ : a866_ 4 6 = a864_ 4 6 := hf866_ 4 6 rfl
  have h880_ := iv_get hv864_ (k := 4) (j := 6) (l := 0) (u := 40) rfl
  have h881_ : a864_ 4 6 = a 4 6 := hf864_ 4 6 rfl
  have h882_ := iv_get hv866_ (k := 146) (j := 2) (l := 0) (u := 40) rfl
  have h883_ : a866_ 146 2 = a864_ 146 2 := hf866_ 146 2 rfl
  have h884_ := iv_get hv864_ (k := 146) (j := 2) (l := 0) (u := 40) rfl
  have h885_ : a864_ 146 2 = a 146 2 := hf864_ 146 2 rfl
  have h886_ := iv_get hv866_ (k := 2) (j := 1) (l := 0) (u := 200) rfl
  have h887_ : a866_ 2 1 = a864_ 2 1 := hf866_ 2 1 rfl
  have h888_ := iv_get hv864_ (k := 2) (j := 1) (l := 0) (u := 200) rfl
  have h889_ : a864_ 2 1 = a 2 1 := hf864_ 2 1 rfl
  have h890_ := iv_get hv866_ (k := 146) (j := 22) (l := 0) (u := 200) rfl
  have h891_ : a866_ 146 22 = a864_ 146 22 := hf866_ 146 22 rfl
  have h892_ := iv_get hv864_ (k := 146) (j := 22) (l := 0) (u := 200) rfl
  have h893_ : a864_ 146 22 = a 146 22 := hf864_ 146 22 rfl
  have h894_ := iv_get hv866_ (k := 105) (j := 5) (l := 0) (u := 10) rfl
  have h895_ : a866_ 105 5 = a864_ 105 5 := hf866_ 105 5 rfl
  have h896_ := iv_get hv864_ (k := 105) (j := 5) (l := 0) (u := 10) rfl
  have h897_ : a864_ 105 5 = a 105 5 := hf864_ 105 5 rfl
  have h898_ := iv_get hv866_ (k := 146) (j := 68) (l := 0) (u := 10) rfl
  have h899_ : a866_ 146 68 = a864_ 146 68 := hf866_ 146 68 rfl
  have h900_ := iv_get hv864_ (k := 146) (j := 68) (l := 0) (u := 10) rfl
  have h901_ : a864_ 146 68 = a 146 68 := hf864_ 146 68 rfl
  exact hnext a866_ b864_ hv866_ (WFW_fr (WFW_fr hg0 hf864_ (fun _ => rfl) (fun _ => rfl)) hf866_ (fun _ => rfl) (fun _ => rfl)) (SV_fr (SV_fr hg1 hf864_ (fun _ => rfl) (fun _ => rfl)) hf866_ (fun _ => rfl) (fun _ => rfl)) (OC_fr (OC_fr hg2 hf864_ rfl rfl (fun _ => rfl) (fun _ => rfl) (fun _ => rfl) (fun _ => rfl) (fun _ => rfl)) hf866_ rfl rfl (fun _ => rfl) (fun _ => rfl) (fun _ => rfl) (fun _ => rfl) (fun _ => rfl)) hq866_0 hq866_1 (TAPE_fr (TAPE_fr hg5 hf864_ (fun _ => rfl) (fun _ => rfl)) hf866_ (fun _ => rfl) (fun _ => rfl)) (MEMR_fr (MEMR_fr hg6 hf864_ (fun _ => rfl) (fun _ => rfl) (fun _ => rfl) (fun _ => rfl) (fun _ => rfl) (fun _ => rfl) (fun _ => rfl) (fun _ => rfl) (fun _ => rfl) (fun _ => rfl)) hf866_ (fun _ => rfl) (fun _ => rfl) (fun _ => rfl) (fun _ => rfl) (fun _ => rfl) (fun _ => rfl) (fun _ => rfl) (fun _ => rfl) (fun _ => rfl) (fun _ => rfl)) (FARR_fr (FARR_fr hg7 hf864_ (fun _ => rfl) (fun _ => rfl)) hf866_ (fun _ => rfl) (fun _ => rfl)) (WISHR_fr (WISHR_fr hg8 hf864_ (fun _ => rfl) (fun _ => rfl) (fun _ => rfl) (fun _ => rfl)) hf866_ (fun _ => rfl) (fun _ => rfl) (fun _ => rfl) (fun _ => rfl)) (show a866_ 0 0 = a866_ 146 0 from by omega) (show a866_ 4 6 = a866_ 146 2 from by omega) (show a866_ 2 1 = a866_ 146 22 from by omega) (show a866_ 105 5 = a866_ 146 68 from by omega)
theorem lw_op869 (E : jxE) (d : Nat) (hd : Nat.ble 60 (d + 1) = true) (hL : E.1 ≤ 3072) (y3 : Int) (hy0 : 0 ≤ y3) (hy1 : y3 + 6 ≤ E.1) (hnext : ∀ (a b : Nat → Nat → Int) (hv : iv a) (hg0 : WFW a) (hg1 : SV a) (hg2 : OC a) (hg3 : FO a) (hg4 : FW a) (hg5 : TAPE a) (hg6 : MEMR a) (hg7 : FARR a) (hg8 : WISHR a) (hr0 : a 0 0 = a 146 0) (hr1 : a 4 6 = a 146 2) (hr2 : a 2 1 = a 146 22) (hr3 : a 105 5 = a 146 68), jt (jxX E d 305 1189 [some (.inr (.inr (.inl 3000))), some (.inr (.inr (.inl 0))), some (.inr (.inr (.inl 146))), some (.inl y3)] [] (jxSH, a, b)) (fun v _ _ => v = [.inl 1])) (a b : Nat → Nat → Int) (hv : iv a) (hg0 : WFW a) (hg1 : SV a) (hg2 : OC a) (hg3 : FO a) (hg4 : FW a) (hg5 : TAPE a) (hg6 : MEMR a) (hg7 : FARR a) (hg8 : WISHR a) (hr0 : a 0 0 = a 146 0) (hr1 : a 4 6 = a 146 2) (hr2 : a 2 1 = a 146 22) (hr3 : a 105 5 = a 146 68) : jt (jxX E d 305 869 [some (.inr (.inr (.inl 3000))), some (.inr (.inr (.inl 0))), some (.inr (.inr (.inl 146))), some (.inl y3)] [] (jxSH, a, b)) (fun v _ _ => v = [.inl 1]) := by
  refine jt_eq (bq_law_869 E d y3 a b) ?_
  have h902_ := iv_get hv (k := 0) (j := 0) (l := 0) (u := 1999) rfl
  have h903_ := iv_get hv (k := 146) (j := 0) (l := 0) (u := 1999) rfl
  have h904_ := iv_get hv (k := 4) (j := 6) (l := 0) (u := 40) rfl
  have h905_ := iv_get hv (k := 146) (j := 2) (l := 0) (u := 40) rfl
  have h906_ := iv_get hv (k := 2) (j := 1) (l := 0) (u := 200) rfl
  have h907_ := iv_get hv (k := 146) (j := 22) (l := 0) (u := 200) rfl
  have h908_ := iv_get hv (k := 105) (j := 5) (l := 0) (u := 10) rfl
  have h909_ := iv_get hv (k := 146) (j := 68) (l := 0) (u := 10) rfl
  refine jt_bif (Nat.ble_eq_true_of_le (by omega)) ?_
  have h910_ : jxw (y3 + 1) = y3 + 1 := jxw_id (by omega) (by omega)
  refine jt_grd (by omega) ?_
  refine jt_bif (Nat.ble_eq_true_of_le (by omega)) ?_
  have h911_ : jxw (y3 + 2) = y3 + 2 := jxw_id (by omega) (by omega)
  refine jt_grd (by omega) ?_
  refine jt_eI (eq_X11_ring E d (jd_le hd rfl) (E.2 ((jxw (y3 + 1)).toNat)) (E.2 ((jxw (y3 + 2)).toNat)) a b) ?_
  refine jt_eq (bq_law_884 E d y3 a b) ?_
  refine jt_bif (Nat.ble_eq_true_of_le (by omega)) ?_
  refine jt_grd (by omega) ?_
  refine jt_bif (Nat.ble_eq_true_of_le (by omega)) ?_
  refine jt_grd (by omega) ?_
  refine jt_eI (eq_X12_ring E d (jd_le hd rfl) (E.2 ((jxw (y3 + 1)).toNat)) (E.2 ((jxw (y3 + 2)).toNat)) a b hv) ?_
  exact hnext a b hv hg0 hg1 hg2 hg3 hg4 hg5 hg6 hg7 hg8 (show a 0 0 = a 146 0 from by omega) (show a 4 6 = a 146 2 from by omega) (show a 2 1 = a 146 22 from by omega) (show a 105 5 = a 146 68 from by omega)
theorem lw_op902 (E : jxE) (d : Nat) (hd : Nat.ble 60 (d + 1) = true) (hL : E.1 ≤ 3072) (y3 : Int) (hy0 : 0 ≤ y3) (hy1 : y3 + 6 ≤ E.1) (hnext : ∀ (a b : Nat → Nat → Int) (hv : iv a) (hg0 : WFW a) (hg1 : SV a) (hg2 : OC a) (hg3 : FO a) (hg4 : FW a) (hg5 : TAPE a) (hg6 : MEMR a) (hg7 : FARR a) (hg8 : WISHR a) (hr0 : a 0 0 = a 146 0) (hr1 : a 4 6 = a 146 2) (hr2 : a 2 1 = a 146 22) (hr3 : a 105 5 = a 146 68), jt (jxX E d 305 1189 [some (.inr (.inr (.inl 3000))), some (.inr (.inr (.inl 0))), some (.inr (.inr (.inl 146))), some (.inl y3)] [] (jxSH, a, b)) (fun v _ _ => v = [.inl 1])) (a b : Nat → Nat → Int) (hv : iv a) (hg0 : WFW a) (hg1 : SV a) (hg2 : OC a) (hg3 : FO a) (hg4 : FW a) (hg5 : TAPE a) (hg6 : MEMR a) (hg7 : FARR a) (hg8 : WISHR a) (hr0 : a 0 0 = a 146 0) (hr1 : a 4 6 = a 146 2) (hr2 : a 2 1 = a 146 22) (hr3 : a 105 5 = a 146 68) : jt (jxX E d 305 902 [some (.inr (.inr (.inl 3000))), some (.inr (.inr (.inl 0))), some (.inr (.inr (.inl 146))), some (.inl y3)] [] (jxSH, a, b)) (fun v _ _ => v = [.inl 1]) := by
  refine jt_eq (bq_law_902 E d y3 a b) ?_
  have h912_ := iv_get hv (k := 0) (j := 0) (l := 0) (u := 1999) rfl
  have h913_ := iv_get hv (k := 146) (j := 0) (l := 0) (u := 1999) rfl
  have h914_ := iv_get hv (k := 4) (j := 6) (l := 0) (u := 40) rfl
  have h915_ := iv_get hv (k := 146) (j := 2) (l := 0) (u := 40) rfl
  have h916_ := iv_get hv (k := 2) (j := 1) (l := 0) (u := 200) rfl
  have h917_ := iv_get hv (k := 146) (j := 22) (l := 0) (u := 200) rfl
  have h918_ := iv_get hv (k := 105) (j := 5) (l := 0) (u := 10) rfl
  have h919_ := iv_get hv (k := 146) (j := 68) (l := 0) (u := 10) rfl
  refine jt_bif (Nat.ble_eq_true_of_le (by omega)) ?_
  have h920_ : jxw (y3 + 1) = y3 + 1 := jxw_id (by omega) (by omega)
  refine jt_grd (by omega) ?_
  refine jt_bI (sp_X11_close E d (jd_le hd rfl) (E.2 ((jxw (y3 + 1)).toNat)) a b hv) (fun r921_ a921_ b921_ h921_ => ?_)
  obtain ⟨hv921_, hf921_, rfl, hq921_0⟩ := h921_
  have h922_ := iv_get hv (k := 90) (j := 12) (l := 0) (u := 6) rfl
  refine jt_eq (bq_law_912 E d y3 a921_ b) ?_
  refine jt_bif (Nat.ble_eq_true_of_le (by omega)) ?_
  refine jt_grd (by omega) ?_
  refine jt_bI (sp_X12_close E d (jd_le hd rfl) (E.2 ((jxw (y3 + 1)).toNat)) a921_ b hv921_ (OC_fr hg2 hf921_ rfl rfl (fun _ => rfl) (fun _ => rfl) (fun _ => rfl) (fun _ => rfl) (fun _ => rfl)) (FO_fr hg3 hf921_ rfl rfl (fun _ => rfl))) (fun r923_ a923_ b923_ h923_ => ?_)
  obtain ⟨hv923_, hf923_, rfl, hq923_0, hq923_1⟩ := h923_
  have h924_ := iv_get hv921_ (k := 146) (j := 64) (l := 0) (u := 6) rfl
  have h925_ : a921_ 146 64 = a 146 64 := hf921_ 146 64 rfl
  have h926_ := iv_get hv (k := 146) (j := 64) (l := 0) (u := 6) rfl
  have h927_ := iv_get hv923_ (k := 0) (j := 0) (l := 0) (u := 1999) rfl
  have h928_ : a923_ 0 0 = a921_ 0 0 := hf923_ 0 0 rfl
  have h929_ := iv_get hv921_ (k := 0) (j := 0) (l := 0) (u := 1999) rfl
  have h930_ : a921_ 0 0 = a 0 0 := hf921_ 0 0 rfl
  have h931_ := iv_get hv923_ (k := 146) (j := 0) (l := 0) (u := 1999) rfl
  have h932_ : a923_ 146 0 = a921_ 146 0 := hf923_ 146 0 rfl
  have h933_ := iv_get hv921_ (k := 146) (j := 0) (l := 0) (u := 1999) rfl
  have h934_ : a921_ 146 0 = a 146 0 := hf921_ 146 0 rfl
  have h935_ := iv_get hv923_ (k := 4) (j := 6) (l := 0) (u := 40) rfl
  have h936_ : a923_ 4 6 = a921_ 4 6 := hf923_ 4 6 rfl
  have h937_ := iv_get hv921_ (k := 4) (j := 6) (l := 0) (u := 40) rfl
  have h938_ : a921_ 4 6 = a 4 6 := hf921_ 4 6 rfl
  have h939_ := iv_get hv923_ (k := 146) (j := 2) (l := 0) (u := 40) rfl
  have h940_ : a923_ 146 2 = a921_ 146 2 := hf923_ 146 2 rfl
  have h941_ := iv_get hv921_ (k := 146) (j := 2) (l := 0) (u := 40) rfl
  have h942_ : a921_ 146 2 = a 146 2 := hf921_ 146 2 rfl
  have h943_ := iv_get hv923_ (k := 2) (j := 1) (l := 0) (u := 200) rfl
  have h944_ : a923_ 2 1 = a921_ 2 1 := hf923_ 2 1 rfl
  have h945_ := iv_get hv921_ (k := 2) (j := 1) (l := 0) (u := 200) rfl
  have h946_ : a921_ 2 1 = a 2 1 := hf921_ 2 1 rfl
  have h947_ := iv_get hv923_ (k := 146) (j := 22) (l := 0) (u := 200) rfl
  have h948_ : a923_ 146 22 = a921_ 146 22 := hf923_ 146 22 rfl
  have h949_ := iv_get hv921_ (k := 146) (j := 22) (l := 0) (u := 200) rfl
  have h950_ : a921_ 146 22 = a 146 22 := hf921_ 146 22 rfl
  have h951_ := iv_get hv923_ (k := 105) (j := 5) (l := 0) (u := 10) rfl
  have h952_ : a923_ 105 5 = a921_ 105 5 := hf923_ 105 5 rfl
  have h953_ := iv_get hv921_ (k := 105) (j := 5) (l := 0) (u := 10) rfl
  have h954_ : a921_ 105 5 = a 105 5 := hf921_ 105 5 rfl
  have h955_ := iv_get hv923_ (k := 146) (j := 68) (l := 0) (u := 10) rfl
  have h956_ : a923_ 146 68 = a921_ 146 68 := hf923_ 146 68 rfl
  have h957_ := iv_get hv921_ (k := 146) (j := 68) (l := 0) (u := 10) rfl
  have h958_ : a921_ 146 68 = a 146 68 := hf921_ 146 68 rfl
  exact hnext a923_ b hv923_ (WFW_fr (WFW_fr hg0 hf921_ (fun _ => rfl) (fun _ => rfl)) hf923_ (fun _ => rfl) (fun _ => rfl)) (SV_fr (SV_fr hg1 hf921_ (fun _ => rfl) (fun _ => rfl)) hf923_ (fun _ => rfl) (fun _ => rfl)) hq923_0 (FO_fr (FO_fr hg3 hf921_ rfl rfl (fun _ => rfl)) hf923_ rfl rfl (fun _ => rfl)) (FW_fr (FW_fr hg4 hf921_ rfl (fun _ => rfl)) hf923_ rfl (fun _ => rfl)) (TAPE_fr (TAPE_fr hg5 hf921_ (fun _ => rfl) (fun _ => rfl)) hf923_ (fun _ => rfl) (fun _ => rfl)) (MEMR_fr (MEMR_fr hg6 hf921_ (fun _ => rfl) (fun _ => rfl) (fun _ => rfl) (fun _ => rfl) (fun _ => rfl) (fun _ => rfl) (fun _ => rfl) (fun _ => rfl) (fun _ => rfl) (fun _ => rfl)) hf923_ (fun _ => rfl) (fun _ => rfl) (fun _ => rfl) (fun _ => rfl) (fun _ => rfl) (fun _ => rfl) (fun _ => rfl) (fun _ => rfl) (fun _ => rfl) (fun _ => rfl)) (FARR_fr (FARR_fr hg7 hf921_ (fun _ => rfl) (fun _ => rfl)) hf923_ (fun _ => rfl) (fun _ => rfl)) (WISHR_fr (WISHR_fr hg8 hf921_ (fun _ => rfl) (fun _ => rfl) (fun _ => rfl) (fun _ => rfl)) hf923_ (fun _ => rfl) (fun _ => rfl) (fun _ => rfl) (fun _ => rfl)) (show a923_ 0 0 = a923_ 146 0 from by omega) (show a923_ 4 6 = a923_ 146 2 from by omega) (show a923_ 2 1 = a923_ 146 22 from by omega) (show a923_ 105 5 = a923_ 146 68 from by omega)
theorem lw_op925 (E : jxE) (d : Nat) (hd : Nat.ble 60 (d + 1) = true) (hL : E.1 ≤ 3072) (y3 : Int) (hy0 : 0 ≤ y3) (hy1 : y3 + 6 ≤ E.1) (hnext : ∀ (a b : Nat → Nat → Int) (hv : iv a) (hg0 : WFW a) (hg1 : SV a) (hg2 : OC a) (hg3 : FO a) (hg4 : FW a) (hg5 : TAPE a) (hg6 : MEMR a) (hg7 : FARR a) (hg8 : WISHR a) (hr0 : a 0 0 = a 146 0) (hr1 : a 4 6 = a 146 2) (hr2 : a 2 1 = a 146 22) (hr3 : a 105 5 = a 146 68), jt (jxX E d 305 1189 [some (.inr (.inr (.inl 3000))), some (.inr (.inr (.inl 0))), some (.inr (.inr (.inl 146))), some (.inl y3)] [] (jxSH, a, b)) (fun v _ _ => v = [.inl 1])) (a b : Nat → Nat → Int) (hv : iv a) (hg0 : WFW a) (hg1 : SV a) (hg2 : OC a) (hg3 : FO a) (hg4 : FW a) (hg5 : TAPE a) (hg6 : MEMR a) (hg7 : FARR a) (hg8 : WISHR a) (hr0 : a 0 0 = a 146 0) (hr1 : a 4 6 = a 146 2) (hr2 : a 2 1 = a 146 22) (hr3 : a 105 5 = a 146 68) : jt (jxX E d 305 925 [some (.inr (.inr (.inl 3000))), some (.inr (.inr (.inl 0))), some (.inr (.inr (.inl 146))), some (.inl y3)] [] (jxSH, a, b)) (fun v _ _ => v = [.inl 1]) := by
  refine jt_eq (bq_law_925 E d y3 a b) ?_
  have h959_ := iv_get hv (k := 0) (j := 0) (l := 0) (u := 1999) rfl
  have h960_ := iv_get hv (k := 146) (j := 0) (l := 0) (u := 1999) rfl
  have h961_ := iv_get hv (k := 4) (j := 6) (l := 0) (u := 40) rfl
  have h962_ := iv_get hv (k := 146) (j := 2) (l := 0) (u := 40) rfl
  have h963_ := iv_get hv (k := 2) (j := 1) (l := 0) (u := 200) rfl
  have h964_ := iv_get hv (k := 146) (j := 22) (l := 0) (u := 200) rfl
  have h965_ := iv_get hv (k := 105) (j := 5) (l := 0) (u := 10) rfl
  have h966_ := iv_get hv (k := 146) (j := 68) (l := 0) (u := 10) rfl
  refine jt_bif (Nat.ble_eq_true_of_le (by omega)) ?_
  have h967_ : jxw (y3 + 1) = y3 + 1 := jxw_id (by omega) (by omega)
  refine jt_grd (by omega) ?_
  refine jt_bif (Nat.ble_eq_true_of_le (by omega)) ?_
  have h968_ : jxw (y3 + 2) = y3 + 2 := jxw_id (by omega) (by omega)
  refine jt_grd (by omega) ?_
  refine jt_bI (sp_X11_drop E d (jd_le hd rfl) (E.2 ((jxw (y3 + 1)).toNat)) (E.2 ((jxw (y3 + 2)).toNat)) a b hv) (fun r969_ a969_ b969_ h969_ => ?_)
  obtain ⟨hv969_, hf969_, rfl, hq969_0⟩ := h969_
  have h970_ := iv_get hv (k := 83) (j := 6) (l := 0) (u := 20) rfl
  refine jt_eq (bq_law_940 E d y3 a969_ b) ?_
  refine jt_bif (Nat.ble_eq_true_of_le (by omega)) ?_
  refine jt_grd (by omega) ?_
  refine jt_bif (Nat.ble_eq_true_of_le (by omega)) ?_
  refine jt_grd (by omega) ?_
  refine jt_bI (sp_X12_drop E d (jd_le hd rfl) (E.2 ((jxw (y3 + 1)).toNat)) (E.2 ((jxw (y3 + 2)).toNat)) a969_ b hv969_ (OC_fr hg2 hf969_ rfl rfl (fun _ => rfl) (fun _ => rfl) (fun _ => rfl) (fun _ => rfl) (fun _ => rfl))) (fun r971_ a971_ b971_ h971_ => ?_)
  obtain ⟨hv971_, hf971_, rfl, hq971_0, hq971_1⟩ := h971_
  have h972_ : a969_ 146 55 = a 146 55 := hf969_ 146 55 rfl
  have h973_ := iv_get hv971_ (k := 0) (j := 0) (l := 0) (u := 1999) rfl
  have h974_ : a971_ 0 0 = a969_ 0 0 := hf971_ 0 0 rfl
  have h975_ := iv_get hv969_ (k := 0) (j := 0) (l := 0) (u := 1999) rfl
  have h976_ : a969_ 0 0 = a 0 0 := hf969_ 0 0 rfl
  have h977_ := iv_get hv971_ (k := 146) (j := 0) (l := 0) (u := 1999) rfl
  have h978_ : a971_ 146 0 = a969_ 146 0 := hf971_ 146 0 rfl
  have h979_ := iv_get hv969_ (k := 146) (j := 0) (l := 0) (u := 1999) rfl
  have h980_ : a969_ 146 0 = a 146 0 := hf969_ 146 0 rfl
  have h981_ := iv_get hv971_ (k := 4) (j := 6) (l := 0) (u := 40) rfl
  have h982_ : a971_ 4 6 = a969_ 4 6 := hf971_ 4 6 rfl
  have h983_ := iv_get hv969_ (k := 4) (j := 6) (l := 0) (u := 40) rfl
  have h984_ : a969_ 4 6 = a 4 6 := hf969_ 4 6 rfl
  have h985_ := iv_get hv971_ (k := 146) (j := 2) (l := 0) (u := 40) rfl
  have h986_ : a971_ 146 2 = a969_ 146 2 := hf971_ 146 2 rfl
  have h987_ := iv_get hv969_ (k := 146) (j := 2) (l := 0) (u := 40) rfl
  have h988_ : a969_ 146 2 = a 146 2 := hf969_ 146 2 rfl
  have h989_ := iv_get hv971_ (k := 2) (j := 1) (l := 0) (u := 200) rfl
  have h990_ : a971_ 2 1 = a969_ 2 1 := hf971_ 2 1 rfl
  have h991_ := iv_get hv969_ (k := 2) (j := 1) (l := 0) (u := 200) rfl
  have h992_ : a969_ 2 1 = a 2 1 := hf969_ 2 1 rfl
  have h993_ := iv_get hv971_ (k := 146) (j := 22) (l := 0) (u := 200) rfl
  have h994_ : a971_ 146 22 = a969_ 146 22 := hf971_ 146 22 rfl
  have h995_ := iv_get hv969_ (k := 146) (j := 22) (l := 0) (u := 200) rfl
  have h996_ : a969_ 146 22 = a 146 22 := hf969_ 146 22 rfl
  have h997_ := iv_get hv971_ (k := 105) (j := 5) (l := 0) (u := 10) rfl
  have h998_ : a971_ 105 5 = a969_ 105 5 := hf971_ 105 5 rfl
  have h999_ := iv_get hv969_ (k := 105) (j := 5) (l := 0) (u := 10) rfl
  have h1000_ : a969_ 105 5 = a 105 5 := hf969_ 105 5 rfl
  have h1001_ := iv_get hv971_ (k := 146) (j := 68) (l := 0) (u := 10) rfl
  have h1002_ : a971_ 146 68 = a969_ 146 68 := hf971_ 146 68 rfl
  have h1003_ := iv_get hv969_ (k := 146) (j := 68) (l := 0) (u := 10) rfl
  have h1004_ : a969_ 146 68 = a 146 68 := hf969_ 146 68 rfl
  exact hnext a971_ b hv971_ (WFW_fr (WFW_fr hg0 hf969_ (fun _ => rfl) (fun _ => rfl)) hf971_ (fun _ => rfl) (fun _ => rfl)) (SV_fr (SV_fr hg1 hf969_ (fun _ => rfl) (fun _ => rfl)) hf971_ (fun _ => rfl) (fun _ => rfl)) hq971_0 (FO_fr (FO_fr hg3 hf969_ rfl rfl (fun _ => rfl)) hf971_ rfl rfl (fun _ => rfl)) (FW_fr (FW_fr hg4 hf969_ rfl (fun _ => rfl)) hf971_ rfl (fun _ => rfl)) (TAPE_fr (TAPE_fr hg5 hf969_ (fun _ => rfl) (fun _ => rfl)) hf971_ (fun _ => rfl) (fun _ => rfl)) (MEMR_fr (MEMR_fr hg6 hf969_ (fun _ => rfl) (fun _ => rfl) (fun _ => rfl) (fun _ => rfl) (fun _ => rfl) (fun _ => rfl) (fun _ => rfl) (fun _ => rfl) (fun _ => rfl) (fun _ => rfl)) hf971_ (fun _ => rfl) (fun _ => rfl) (fun _ => rfl) (fun _ => rfl) (fun _ => rfl) (fun _ => rfl) (fun _ => rfl) (fun _ => rfl) (fun _ => rfl) (fun _ => rfl)) (FARR_fr (FARR_fr hg7 hf969_ (fun _ => rfl) (fun _ => rfl)) hf971_ (fun _ => rfl) (fun _ => rfl)) (WISHR_fr (WISHR_fr hg8 hf969_ (fun _ => rfl) (fun _ => rfl) (fun _ => rfl) (fun _ => rfl)) hf971_ (fun _ => rfl) (fun _ => rfl) (fun _ => rfl) (fun _ => rfl)) (show a971_ 0 0 = a971_ 146 0 from by omega) (show a971_ 4 6 = a971_ 146 2 from by omega) (show a971_ 2 1 = a971_ 146 22 from by omega) (show a971_ 105 5 = a971_ 146 68 from by omega)
theorem lw_op958 (E : jxE) (d : Nat) (hd : Nat.ble 60 (d + 1) = true) (hL : E.1 ≤ 3072) (y3 : Int) (hy0 : 0 ≤ y3) (hy1 : y3 + 6 ≤ E.1) (hnext : ∀ (a b : Nat → Nat → Int) (hv : iv a) (hg0 : WFW a) (hg1 : SV a) (hg2 : OC a) (hg3 : FO a) (hg4 : FW a) (hg5 : TAPE a) (hg6 : MEMR a) (hg7 : FARR a) (hg8 : WISHR a) (hr0 : a 0 0 = a 146 0) (hr1 : a 4 6 = a 146 2) (hr2 : a 2 1 = a 146 22) (hr3 : a 105 5 = a 146 68), jt (jxX E d 305 1189 [some (.inr (.inr (.inl 3000))), some (.inr (.inr (.inl 0))), some (.inr (.inr (.inl 146))), some (.inl y3)] [] (jxSH, a, b)) (fun v _ _ => v = [.inl 1])) (a b : Nat → Nat → Int) (hv : iv a) (hg0 : WFW a) (hg1 : SV a) (hg2 : OC a) (hg3 : FO a) (hg4 : FW a) (hg5 : TAPE a) (hg6 : MEMR a) (hg7 : FARR a) (hg8 : WISHR a) (hr0 : a 0 0 = a 146 0) (hr1 : a 4 6 = a 146 2) (hr2 : a 2 1 = a 146 22) (hr3 : a 105 5 = a 146 68) : jt (jxX E d 305 958 [some (.inr (.inr (.inl 3000))), some (.inr (.inr (.inl 0))), some (.inr (.inr (.inl 146))), some (.inl y3)] [] (jxSH, a, b)) (fun v _ _ => v = [.inl 1]) := by
  refine jt_eq (bq_law_958 E d y3 a b) ?_
  have h1005_ := iv_get hv (k := 0) (j := 0) (l := 0) (u := 1999) rfl
  have h1006_ := iv_get hv (k := 146) (j := 0) (l := 0) (u := 1999) rfl
  have h1007_ := iv_get hv (k := 4) (j := 6) (l := 0) (u := 40) rfl
  have h1008_ := iv_get hv (k := 146) (j := 2) (l := 0) (u := 40) rfl
  have h1009_ := iv_get hv (k := 2) (j := 1) (l := 0) (u := 200) rfl
  have h1010_ := iv_get hv (k := 146) (j := 22) (l := 0) (u := 200) rfl
  have h1011_ := iv_get hv (k := 105) (j := 5) (l := 0) (u := 10) rfl
  have h1012_ := iv_get hv (k := 146) (j := 68) (l := 0) (u := 10) rfl
  refine jt_bif (Nat.ble_eq_true_of_le (by omega)) ?_
  have h1013_ : jxw (y3 + 1) = y3 + 1 := jxw_id (by omega) (by omega)
  refine jt_grd (by omega) ?_
  refine jt_bif (Nat.ble_eq_true_of_le (by omega)) ?_
  have h1014_ : jxw (y3 + 2) = y3 + 2 := jxw_id (by omega) (by omega)
  refine jt_grd (by omega) ?_
  refine jt_eI (eq_X11_offers E d (jd_le hd rfl) (E.2 ((jxw (y3 + 1)).toNat)) (E.2 ((jxw (y3 + 2)).toNat)) a b) ?_
  refine jt_eq (bq_law_973 E d y3 a b) ?_
  refine jt_bif (Nat.ble_eq_true_of_le (by omega)) ?_
  refine jt_grd (by omega) ?_
  refine jt_bif (Nat.ble_eq_true_of_le (by omega)) ?_
  refine jt_grd (by omega) ?_
  refine jt_eI (eq_X12_offers E d (jd_le hd rfl) (E.2 ((jxw (y3 + 1)).toNat)) (E.2 ((jxw (y3 + 2)).toNat)) a b hv) ?_
  exact hnext a b hv hg0 hg1 hg2 hg3 hg4 hg5 hg6 hg7 hg8 (show a 0 0 = a 146 0 from by omega) (show a 4 6 = a 146 2 from by omega) (show a 2 1 = a 146 22 from by omega) (show a 105 5 = a 146 68 from by omega)
theorem lw_op991 (E : jxE) (d : Nat) (hd : Nat.ble 60 (d + 1) = true) (hL : E.1 ≤ 3072) (y3 : Int) (hy0 : 0 ≤ y3) (hy1 : y3 + 6 ≤ E.1) (hnext : ∀ (a b : Nat → Nat → Int) (hv : iv a) (hg0 : WFW a) (hg1 : SV a) (hg2 : OC a) (hg3 : FO a) (hg4 : FW a) (hg5 : TAPE a) (hg6 : MEMR a) (hg7 : FARR a) (hg8 : WISHR a) (hr0 : a 0 0 = a 146 0) (hr1 : a 4 6 = a 146 2) (hr2 : a 2 1 = a 146 22) (hr3 : a 105 5 = a 146 68), jt (jxX E d 305 1189 [some (.inr (.inr (.inl 3000))), some (.inr (.inr (.inl 0))), some (.inr (.inr (.inl 146))), some (.inl y3)] [] (jxSH, a, b)) (fun v _ _ => v = [.inl 1])) (a b : Nat → Nat → Int) (hv : iv a) (hg0 : WFW a) (hg1 : SV a) (hg2 : OC a) (hg3 : FO a) (hg4 : FW a) (hg5 : TAPE a) (hg6 : MEMR a) (hg7 : FARR a) (hg8 : WISHR a) (hr0 : a 0 0 = a 146 0) (hr1 : a 4 6 = a 146 2) (hr2 : a 2 1 = a 146 22) (hr3 : a 105 5 = a 146 68) : jt (jxX E d 305 991 [some (.inr (.inr (.inl 3000))), some (.inr (.inr (.inl 0))), some (.inr (.inr (.inl 146))), some (.inl y3)] [] (jxSH, a, b)) (fun v _ _ => v = [.inl 1]) := by
  refine jt_eq (bq_law_991 E d y3 a b) ?_
  have h1015_ := iv_get hv (k := 0) (j := 0) (l := 0) (u := 1999) rfl
  have h1016_ := iv_get hv (k := 146) (j := 0) (l := 0) (u := 1999) rfl
  have h1017_ := iv_get hv (k := 4) (j := 6) (l := 0) (u := 40) rfl
  have h1018_ := iv_get hv (k := 146) (j := 2) (l := 0) (u := 40) rfl
  have h1019_ := iv_get hv (k := 2) (j := 1) (l := 0) (u := 200) rfl
  have h1020_ := iv_get hv (k := 146) (j := 22) (l := 0) (u := 200) rfl
  have h1021_ := iv_get hv (k := 105) (j := 5) (l := 0) (u := 10) rfl
  have h1022_ := iv_get hv (k := 146) (j := 68) (l := 0) (u := 10) rfl
  refine jt_bif (Nat.ble_eq_true_of_le (by omega)) ?_
  have h1023_ : jxw (y3 + 1) = y3 + 1 := jxw_id (by omega) (by omega)
  refine jt_grd (by omega) ?_
  refine jt_bI (sp_X11_rates E d (jd_le hd rfl) (E.2 ((jxw (y3 + 1)).toNat)) a b hv) (fun r1024_ a1024_ b1024_ h1024_ => ?_)
  obtain ⟨hv1024_, hf1024_, rfl, hq1024_0, hq1024_1, hq1024_2, hq1024_3, hq1024_4⟩ := h1024_
  have h1025_ := iv_get hv1024_ (k := 2) (j := 1) (l := 0) (u := 200) rfl
  have h1026_ := iv_get hv1024_ (k := 105) (j := 5) (l := 0) (u := 10) rfl
  refine jt_eq (bq_law_1001 E d y3 a1024_ b) ?_
  refine jt_bif (Nat.ble_eq_true_of_le (by omega)) ?_
  refine jt_grd (by omega) ?_
  refine jt_bI (sp_X12_rates E d (jd_le hd rfl) (E.2 ((jxw (y3 + 1)).toNat)) a1024_ b hv1024_) (fun r1027_ a1027_ b1027_ h1027_ => ?_)
  obtain ⟨hv1027_, hf1027_, rfl, hq1027_0, hq1027_1, hq1027_2, hq1027_3, hq1027_4, hq1027_5⟩ := h1027_
  have h1028_ := iv_get hv1024_ (k := 146) (j := 22) (l := 0) (u := 200) rfl
  have h1029_ : a1024_ 146 22 = a 146 22 := hf1024_ 146 22 rfl
  have h1030_ := iv_get hv1024_ (k := 146) (j := 68) (l := 0) (u := 10) rfl
  have h1031_ : a1024_ 146 68 = a 146 68 := hf1024_ 146 68 rfl
  have h1032_ := iv_get hv1027_ (k := 146) (j := 68) (l := 0) (u := 10) rfl
  have h1033_ := iv_get hv1027_ (k := 146) (j := 22) (l := 0) (u := 200) rfl
  have hfin1027 := RATE_fin hg5 hr2 hr3 hq1024_1 hq1024_2 hq1024_3 hq1027_1 hq1027_4 hq1027_5 (fun j => hf1024_ 164 j rfl) (hf1024_ 146 22 rfl) (hf1024_ 146 68 rfl) (hf1027_ 2 1 rfl) (hf1027_ 105 5 rfl)
  clear hq1024_0 hq1024_1 hq1024_2 hq1024_3 hq1027_0 hq1027_1 hq1027_2 hq1027_3 hq1027_4 hq1027_5
  have h1034_ := iv_get hv1027_ (k := 0) (j := 0) (l := 0) (u := 1999) rfl
  have h1035_ : a1027_ 0 0 = a1024_ 0 0 := hf1027_ 0 0 rfl
  have h1036_ := iv_get hv1024_ (k := 0) (j := 0) (l := 0) (u := 1999) rfl
  have h1037_ : a1024_ 0 0 = a 0 0 := hf1024_ 0 0 rfl
  have h1038_ := iv_get hv1027_ (k := 146) (j := 0) (l := 0) (u := 1999) rfl
  have h1039_ : a1027_ 146 0 = a1024_ 146 0 := hf1027_ 146 0 rfl
  have h1040_ := iv_get hv1024_ (k := 146) (j := 0) (l := 0) (u := 1999) rfl
  have h1041_ : a1024_ 146 0 = a 146 0 := hf1024_ 146 0 rfl
  have h1042_ := iv_get hv1027_ (k := 4) (j := 6) (l := 0) (u := 40) rfl
  have h1043_ : a1027_ 4 6 = a1024_ 4 6 := hf1027_ 4 6 rfl
  have h1044_ := iv_get hv1024_ (k := 4) (j := 6) (l := 0) (u := 40) rfl
  have h1045_ : a1024_ 4 6 = a 4 6 := hf1024_ 4 6 rfl
  have h1046_ := iv_get hv1027_ (k := 146) (j := 2) (l := 0) (u := 40) rfl
  have h1047_ : a1027_ 146 2 = a1024_ 146 2 := hf1027_ 146 2 rfl
  have h1048_ := iv_get hv1024_ (k := 146) (j := 2) (l := 0) (u := 40) rfl
  have h1049_ : a1024_ 146 2 = a 146 2 := hf1024_ 146 2 rfl
  have h1050_ := iv_get hv1027_ (k := 2) (j := 1) (l := 0) (u := 200) rfl
  have h1051_ : a1027_ 2 1 = a1024_ 2 1 := hf1027_ 2 1 rfl
  have h1052_ := iv_get hv1027_ (k := 105) (j := 5) (l := 0) (u := 10) rfl
  have h1053_ : a1027_ 105 5 = a1024_ 105 5 := hf1027_ 105 5 rfl
  exact hnext a1027_ b hv1027_ (WFW_fr (WFW_fr hg0 hf1024_ (fun _ => rfl) (fun _ => rfl)) hf1027_ (fun _ => rfl) (fun _ => rfl)) (SV_fr (SV_fr hg1 hf1024_ (fun _ => rfl) (fun _ => rfl)) hf1027_ (fun _ => rfl) (fun _ => rfl)) (OC_fr (OC_fr hg2 hf1024_ rfl rfl (fun _ => rfl) (fun _ => rfl) (fun _ => rfl) (fun _ => rfl) (fun _ => rfl)) hf1027_ rfl rfl (fun _ => rfl) (fun _ => rfl) (fun _ => rfl) (fun _ => rfl) (fun _ => rfl)) (FO_fr (FO_fr hg3 hf1024_ rfl rfl (fun _ => rfl)) hf1027_ rfl rfl (fun _ => rfl)) (FW_fr (FW_fr hg4 hf1024_ rfl (fun _ => rfl)) hf1027_ rfl (fun _ => rfl)) (TAPE_fr (TAPE_fr hg5 hf1024_ (fun _ => rfl) (fun _ => rfl)) hf1027_ (fun _ => rfl) (fun _ => rfl)) (MEMR_fr (MEMR_fr hg6 hf1024_ (fun _ => rfl) (fun _ => rfl) (fun _ => rfl) (fun _ => rfl) (fun _ => rfl) (fun _ => rfl) (fun _ => rfl) (fun _ => rfl) (fun _ => rfl) (fun _ => rfl)) hf1027_ (fun _ => rfl) (fun _ => rfl) (fun _ => rfl) (fun _ => rfl) (fun _ => rfl) (fun _ => rfl) (fun _ => rfl) (fun _ => rfl) (fun _ => rfl) (fun _ => rfl)) (FARR_fr (FARR_fr hg7 hf1024_ (fun _ => rfl) (fun _ => rfl)) hf1027_ (fun _ => rfl) (fun _ => rfl)) (WISHR_fr (WISHR_fr hg8 hf1024_ (fun _ => rfl) (fun _ => rfl) (fun _ => rfl) (fun _ => rfl)) hf1027_ (fun _ => rfl) (fun _ => rfl) (fun _ => rfl) (fun _ => rfl)) (show a1027_ 0 0 = a1027_ 146 0 from by omega) (show a1027_ 4 6 = a1027_ 146 2 from by omega) (show a1027_ 2 1 = a1027_ 146 22 from by omega) (show a1027_ 105 5 = a1027_ 146 68 from by omega)
theorem lw_op1014 (E : jxE) (d : Nat) (hd : Nat.ble 60 (d + 1) = true) (hL : E.1 ≤ 3072) (y3 : Int) (hy0 : 0 ≤ y3) (hy1 : y3 + 6 ≤ E.1) (hnext : ∀ (a b : Nat → Nat → Int) (hv : iv a) (hg0 : WFW a) (hg1 : SV a) (hg2 : OC a) (hg3 : FO a) (hg4 : FW a) (hg5 : TAPE a) (hg6 : MEMR a) (hg7 : FARR a) (hg8 : WISHR a) (hr0 : a 0 0 = a 146 0) (hr1 : a 4 6 = a 146 2) (hr2 : a 2 1 = a 146 22) (hr3 : a 105 5 = a 146 68), jt (jxX E d 305 1189 [some (.inr (.inr (.inl 3000))), some (.inr (.inr (.inl 0))), some (.inr (.inr (.inl 146))), some (.inl y3)] [] (jxSH, a, b)) (fun v _ _ => v = [.inl 1])) (a b : Nat → Nat → Int) (hv : iv a) (hg0 : WFW a) (hg1 : SV a) (hg2 : OC a) (hg3 : FO a) (hg4 : FW a) (hg5 : TAPE a) (hg6 : MEMR a) (hg7 : FARR a) (hg8 : WISHR a) (hr0 : a 0 0 = a 146 0) (hr1 : a 4 6 = a 146 2) (hr2 : a 2 1 = a 146 22) (hr3 : a 105 5 = a 146 68) : jt (jxX E d 305 1014 [some (.inr (.inr (.inl 3000))), some (.inr (.inr (.inl 0))), some (.inr (.inr (.inl 146))), some (.inl y3)] [] (jxSH, a, b)) (fun v _ _ => v = [.inl 1]) := by
  refine jt_eq (bq_law_1014 E d y3 a b) ?_
  have h1054_ := iv_get hv (k := 0) (j := 0) (l := 0) (u := 1999) rfl
  have h1055_ := iv_get hv (k := 146) (j := 0) (l := 0) (u := 1999) rfl
  have h1056_ := iv_get hv (k := 4) (j := 6) (l := 0) (u := 40) rfl
  have h1057_ := iv_get hv (k := 146) (j := 2) (l := 0) (u := 40) rfl
  have h1058_ := iv_get hv (k := 2) (j := 1) (l := 0) (u := 200) rfl
  have h1059_ := iv_get hv (k := 146) (j := 22) (l := 0) (u := 200) rfl
  have h1060_ := iv_get hv (k := 105) (j := 5) (l := 0) (u := 10) rfl
  have h1061_ := iv_get hv (k := 146) (j := 68) (l := 0) (u := 10) rfl
  refine jt_bif (Nat.ble_eq_true_of_le (by omega)) ?_
  have h1062_ : jxw (y3 + 1) = y3 + 1 := jxw_id (by omega) (by omega)
  refine jt_grd (by omega) ?_
  refine jt_bif (Nat.ble_eq_true_of_le (by omega)) ?_
  have h1063_ : jxw (y3 + 2) = y3 + 2 := jxw_id (by omega) (by omega)
  refine jt_grd (by omega) ?_
  refine jt_bif (Nat.ble_eq_true_of_le (by omega)) ?_
  have h1064_ : jxw (y3 + 3) = y3 + 3 := jxw_id (by omega) (by omega)
  refine jt_grd (by omega) ?_
  refine jt_bif (Nat.ble_eq_true_of_le (by omega)) ?_
  have h1065_ : jxw (y3 + 4) = y3 + 4 := jxw_id (by omega) (by omega)
  refine jt_grd (by omega) ?_
  refine jt_bI (sp_X11_price E d (jd_le hd rfl) (E.2 ((jxw (y3 + 1)).toNat)) (E.2 ((jxw (y3 + 2)).toNat)) (E.2 ((jxw (y3 + 3)).toNat)) (E.2 ((jxw (y3 + 4)).toNat)) a b hv) (fun r1066_ a1066_ b1066_ h1066_ => ?_)
  obtain ⟨rfl, rfl, hq1066_0, hq1066_1, hq1066_2⟩ := h1066_
  refine jt_eq (bq_law_1039 E d y3 a b) ?_
  refine jt_bif (Nat.ble_eq_true_of_le (by omega)) ?_
  refine jt_grd (by omega) ?_
  refine jt_bif (Nat.ble_eq_true_of_le (by omega)) ?_
  refine jt_grd (by omega) ?_
  refine jt_bif (Nat.ble_eq_true_of_le (by omega)) ?_
  refine jt_grd (by omega) ?_
  refine jt_bif (Nat.ble_eq_true_of_le (by omega)) ?_
  refine jt_grd (by omega) ?_
  refine jt_bI (sp_X12_price E d (jd_le hd rfl) (E.2 ((jxw (y3 + 1)).toNat)) (E.2 ((jxw (y3 + 2)).toNat)) (E.2 ((jxw (y3 + 3)).toNat)) (E.2 ((jxw (y3 + 4)).toNat)) a b hv) (fun r1067_ a1067_ b1067_ h1067_ => ?_)
  obtain ⟨rfl, rfl, hq1067_0, hq1067_1, hq1067_2⟩ := h1067_
  refine jt_eq (bq_law_1064 E d y3 a b) ?_
  exact hnext a b hv hg0 hg1 hg2 hg3 hg4 hg5 hg6 hg7 hg8 (show a 0 0 = a 146 0 from by omega) (show a 4 6 = a 146 2 from by omega) (show a 2 1 = a 146 22 from by omega) (show a 105 5 = a 146 68 from by omega)
theorem lw_op1067 (E : jxE) (d : Nat) (hd : Nat.ble 60 (d + 1) = true) (hL : E.1 ≤ 3072) (y3 : Int) (hy0 : 0 ≤ y3) (hy1 : y3 + 6 ≤ E.1) (hnext : ∀ (a b : Nat → Nat → Int) (hv : iv a) (hg0 : WFW a) (hg1 : SV a) (hg2 : OC a) (hg3 : FO a) (hg4 : FW a) (hg5 : TAPE a) (hg6 : MEMR a) (hg7 : FARR a) (hg8 : WISHR a) (hr0 : a 0 0 = a 146 0) (hr1 : a 4 6 = a 146 2) (hr2 : a 2 1 = a 146 22) (hr3 : a 105 5 = a 146 68), jt (jxX E d 305 1189 [some (.inr (.inr (.inl 3000))), some (.inr (.inr (.inl 0))), some (.inr (.inr (.inl 146))), some (.inl y3)] [] (jxSH, a, b)) (fun v _ _ => v = [.inl 1])) (a b : Nat → Nat → Int) (hv : iv a) (hg0 : WFW a) (hg1 : SV a) (hg2 : OC a) (hg3 : FO a) (hg4 : FW a) (hg5 : TAPE a) (hg6 : MEMR a) (hg7 : FARR a) (hg8 : WISHR a) (hr0 : a 0 0 = a 146 0) (hr1 : a 4 6 = a 146 2) (hr2 : a 2 1 = a 146 22) (hr3 : a 105 5 = a 146 68) : jt (jxX E d 305 1067 [some (.inr (.inr (.inl 3000))), some (.inr (.inr (.inl 0))), some (.inr (.inr (.inl 146))), some (.inl y3)] [] (jxSH, a, b)) (fun v _ _ => v = [.inl 1]) := by
  refine jt_eq (bq_law_1067 E d y3 a b) ?_
  have h1068_ := iv_get hv (k := 0) (j := 0) (l := 0) (u := 1999) rfl
  have h1069_ := iv_get hv (k := 146) (j := 0) (l := 0) (u := 1999) rfl
  have h1070_ := iv_get hv (k := 4) (j := 6) (l := 0) (u := 40) rfl
  have h1071_ := iv_get hv (k := 146) (j := 2) (l := 0) (u := 40) rfl
  have h1072_ := iv_get hv (k := 2) (j := 1) (l := 0) (u := 200) rfl
  have h1073_ := iv_get hv (k := 146) (j := 22) (l := 0) (u := 200) rfl
  have h1074_ := iv_get hv (k := 105) (j := 5) (l := 0) (u := 10) rfl
  have h1075_ := iv_get hv (k := 146) (j := 68) (l := 0) (u := 10) rfl
  refine jt_bif (Nat.ble_eq_true_of_le (by omega)) ?_
  have h1076_ : jxw (y3 + 1) = y3 + 1 := jxw_id (by omega) (by omega)
  refine jt_grd (by omega) ?_
  refine jt_bif (Nat.ble_eq_true_of_le (by omega)) ?_
  have h1077_ : jxw (y3 + 2) = y3 + 2 := jxw_id (by omega) (by omega)
  refine jt_grd (by omega) ?_
  refine jt_bif (Nat.ble_eq_true_of_le (by omega)) ?_
  have h1078_ : jxw (y3 + 3) = y3 + 3 := jxw_id (by omega) (by omega)
  refine jt_grd (by omega) ?_
  refine jt_bI (sp_X11_stamps E d (jd_le hd rfl) (E.2 ((jxw (y3 + 1)).toNat)) (E.2 ((jxw (y3 + 2)).toNat)) (E.2 ((jxw (y3 + 3)).toNat)) a b hv) (fun r1079_ a1079_ b1079_ h1079_ => ?_)
  obtain ⟨hv1079_, hf1079_, rfl, hq1079_0, hq1079_1⟩ := h1079_
  refine jt_eq (bq_law_1087 E d y3 a1079_ b) ?_
  refine jt_bif (Nat.ble_eq_true_of_le (by omega)) ?_
  refine jt_grd (by omega) ?_
  refine jt_bif (Nat.ble_eq_true_of_le (by omega)) ?_
  refine jt_grd (by omega) ?_
  refine jt_bif (Nat.ble_eq_true_of_le (by omega)) ?_
  refine jt_grd (by omega) ?_
  refine jt_bI (sp_X12_stamps E d (jd_le hd rfl) (E.2 ((jxw (y3 + 1)).toNat)) (E.2 ((jxw (y3 + 2)).toNat)) (E.2 ((jxw (y3 + 3)).toNat)) a1079_ b hv1079_ (SV_fr hg1 hf1079_ (fun _ => rfl) (fun _ => rfl))) (fun r1080_ a1080_ b1080_ h1080_ => ?_)
  obtain ⟨hv1080_, hf1080_, rfl, hq1080_0, hq1080_1, hq1080_2⟩ := h1080_
  refine jt_eq (bq_law_1107 E d y3 a1080_ b) ?_
  have h1081_ := iv_get hv1080_ (k := 0) (j := 0) (l := 0) (u := 1999) rfl
  have h1082_ : a1080_ 0 0 = a1079_ 0 0 := hf1080_ 0 0 rfl
  have h1083_ := iv_get hv1079_ (k := 0) (j := 0) (l := 0) (u := 1999) rfl
  have h1084_ : a1079_ 0 0 = a 0 0 := hf1079_ 0 0 rfl
  have h1085_ := iv_get hv1080_ (k := 146) (j := 0) (l := 0) (u := 1999) rfl
  have h1086_ : a1080_ 146 0 = a1079_ 146 0 := hf1080_ 146 0 rfl
  have h1087_ := iv_get hv1079_ (k := 146) (j := 0) (l := 0) (u := 1999) rfl
  have h1088_ : a1079_ 146 0 = a 146 0 := hf1079_ 146 0 rfl
  have h1089_ := iv_get hv1080_ (k := 4) (j := 6) (l := 0) (u := 40) rfl
  have h1090_ : a1080_ 4 6 = a1079_ 4 6 := hf1080_ 4 6 rfl
  have h1091_ := iv_get hv1079_ (k := 4) (j := 6) (l := 0) (u := 40) rfl
  have h1092_ : a1079_ 4 6 = a 4 6 := hf1079_ 4 6 rfl
  have h1093_ := iv_get hv1080_ (k := 146) (j := 2) (l := 0) (u := 40) rfl
  have h1094_ : a1080_ 146 2 = a1079_ 146 2 := hf1080_ 146 2 rfl
  have h1095_ := iv_get hv1079_ (k := 146) (j := 2) (l := 0) (u := 40) rfl
  have h1096_ : a1079_ 146 2 = a 146 2 := hf1079_ 146 2 rfl
  have h1097_ := iv_get hv1080_ (k := 2) (j := 1) (l := 0) (u := 200) rfl
  have h1098_ : a1080_ 2 1 = a1079_ 2 1 := hf1080_ 2 1 rfl
  have h1099_ := iv_get hv1079_ (k := 2) (j := 1) (l := 0) (u := 200) rfl
  have h1100_ : a1079_ 2 1 = a 2 1 := hf1079_ 2 1 rfl
  have h1101_ := iv_get hv1080_ (k := 146) (j := 22) (l := 0) (u := 200) rfl
  have h1102_ : a1080_ 146 22 = a1079_ 146 22 := hf1080_ 146 22 rfl
  have h1103_ := iv_get hv1079_ (k := 146) (j := 22) (l := 0) (u := 200) rfl
  have h1104_ : a1079_ 146 22 = a 146 22 := hf1079_ 146 22 rfl
  have h1105_ := iv_get hv1080_ (k := 105) (j := 5) (l := 0) (u := 10) rfl
  have h1106_ : a1080_ 105 5 = a1079_ 105 5 := hf1080_ 105 5 rfl
  have h1107_ := iv_get hv1079_ (k := 105) (j := 5) (l := 0) (u := 10) rfl
  have h1108_ : a1079_ 105 5 = a 105 5 := hf1079_ 105 5 rfl
  have h1109_ := iv_get hv1080_ (k := 146) (j := 68) (l := 0) (u := 10) rfl
  have h1110_ : a1080_ 146 68 = a1079_ 146 68 := hf1080_ 146 68 rfl
  have h1111_ := iv_get hv1079_ (k := 146) (j := 68) (l := 0) (u := 10) rfl
  have h1112_ : a1079_ 146 68 = a 146 68 := hf1079_ 146 68 rfl
  exact hnext a1080_ b hv1080_ (WFW_fr (WFW_fr hg0 hf1079_ (fun _ => rfl) (fun _ => rfl)) hf1080_ (fun _ => rfl) (fun _ => rfl)) hq1080_1 (OC_fr (OC_fr hg2 hf1079_ rfl rfl (fun _ => rfl) (fun _ => rfl) (fun _ => rfl) (fun _ => rfl) (fun _ => rfl)) hf1080_ rfl rfl (fun _ => rfl) (fun _ => rfl) (fun _ => rfl) (fun _ => rfl) (fun _ => rfl)) (FO_fr (FO_fr hg3 hf1079_ rfl rfl (fun _ => rfl)) hf1080_ rfl rfl (fun _ => rfl)) (FW_fr (FW_fr hg4 hf1079_ rfl (fun _ => rfl)) hf1080_ rfl (fun _ => rfl)) (TAPE_fr (TAPE_fr hg5 hf1079_ (fun _ => rfl) (fun _ => rfl)) hf1080_ (fun _ => rfl) (fun _ => rfl)) (MEMR_fr (MEMR_fr hg6 hf1079_ (fun _ => rfl) (fun _ => rfl) (fun _ => rfl) (fun _ => rfl) (fun _ => rfl) (fun _ => rfl) (fun _ => rfl) (fun _ => rfl) (fun _ => rfl) (fun _ => rfl)) hf1080_ (fun _ => rfl) (fun _ => rfl) (fun _ => rfl) (fun _ => rfl) (fun _ => rfl) (fun _ => rfl) (fun _ => rfl) (fun _ => rfl) (fun _ => rfl) (fun _ => rfl)) (FARR_fr (FARR_fr hg7 hf1079_ (fun _ => rfl) (fun _ => rfl)) hf1080_ (fun _ => rfl) (fun _ => rfl)) (WISHR_fr (WISHR_fr hg8 hf1079_ (fun _ => rfl) (fun _ => rfl) (fun _ => rfl) (fun _ => rfl)) hf1080_ (fun _ => rfl) (fun _ => rfl) (fun _ => rfl) (fun _ => rfl)) (show a1080_ 0 0 = a1080_ 146 0 from by omega) (show a1080_ 4 6 = a1080_ 146 2 from by omega) (show a1080_ 2 1 = a1080_ 146 22 from by omega) (show a1080_ 105 5 = a1080_ 146 68 from by omega)
theorem lw_op1110 (E : jxE) (d : Nat) (hd : Nat.ble 60 (d + 1) = true) (hL : E.1 ≤ 3072) (y3 : Int) (hy0 : 0 ≤ y3) (hy1 : y3 + 6 ≤ E.1) (hnext : ∀ (a b : Nat → Nat → Int) (hv : iv a) (hg0 : WFW a) (hg1 : SV a) (hg2 : OC a) (hg3 : FO a) (hg4 : FW a) (hg5 : TAPE a) (hg6 : MEMR a) (hg7 : FARR a) (hg8 : WISHR a) (hr0 : a 0 0 = a 146 0) (hr1 : a 4 6 = a 146 2) (hr2 : a 2 1 = a 146 22) (hr3 : a 105 5 = a 146 68), jt (jxX E d 305 1189 [some (.inr (.inr (.inl 3000))), some (.inr (.inr (.inl 0))), some (.inr (.inr (.inl 146))), some (.inl y3)] [] (jxSH, a, b)) (fun v _ _ => v = [.inl 1])) (a b : Nat → Nat → Int) (hv : iv a) (hg0 : WFW a) (hg1 : SV a) (hg2 : OC a) (hg3 : FO a) (hg4 : FW a) (hg5 : TAPE a) (hg6 : MEMR a) (hg7 : FARR a) (hg8 : WISHR a) (hr0 : a 0 0 = a 146 0) (hr1 : a 4 6 = a 146 2) (hr2 : a 2 1 = a 146 22) (hr3 : a 105 5 = a 146 68) : jt (jxX E d 305 1110 [some (.inr (.inr (.inl 3000))), some (.inr (.inr (.inl 0))), some (.inr (.inr (.inl 146))), some (.inl y3)] [] (jxSH, a, b)) (fun v _ _ => v = [.inl 1]) := by
  refine jt_eq (bq_law_1110 E d y3 a b) ?_
  have h1113_ := iv_get hv (k := 0) (j := 0) (l := 0) (u := 1999) rfl
  have h1114_ := iv_get hv (k := 146) (j := 0) (l := 0) (u := 1999) rfl
  have h1115_ := iv_get hv (k := 4) (j := 6) (l := 0) (u := 40) rfl
  have h1116_ := iv_get hv (k := 146) (j := 2) (l := 0) (u := 40) rfl
  have h1117_ := iv_get hv (k := 2) (j := 1) (l := 0) (u := 200) rfl
  have h1118_ := iv_get hv (k := 146) (j := 22) (l := 0) (u := 200) rfl
  have h1119_ := iv_get hv (k := 105) (j := 5) (l := 0) (u := 10) rfl
  have h1120_ := iv_get hv (k := 146) (j := 68) (l := 0) (u := 10) rfl
  refine jt_bif (Nat.ble_eq_true_of_le (by omega)) ?_
  have h1121_ : jxw (y3 + 1) = y3 + 1 := jxw_id (by omega) (by omega)
  refine jt_grd (by omega) ?_
  refine jt_bif (Nat.ble_eq_true_of_le (by omega)) ?_
  have h1122_ : jxw (y3 + 2) = y3 + 2 := jxw_id (by omega) (by omega)
  refine jt_grd (by omega) ?_
  refine jt_bI (sp_X11_pay E d (jd_le hd rfl) (E.2 ((jxw (y3 + 1)).toNat)) (E.2 ((jxw (y3 + 2)).toNat)) a b hv) (fun r1123_ a1123_ b1123_ h1123_ => ?_)
  obtain ⟨hv1123_, hf1123_, hq1123_0⟩ := h1123_
  have h1124_ := iv_get hv (k := 58) (j := 8) (l := 0) (u := 300) rfl
  refine jt_eq (bq_law_1125 E d y3 a1123_ b1123_) ?_
  refine jt_bif (Nat.ble_eq_true_of_le (by omega)) ?_
  refine jt_grd (by omega) ?_
  refine jt_bif (Nat.ble_eq_true_of_le (by omega)) ?_
  refine jt_grd (by omega) ?_
  refine jt_bI (sp_X12_pay E d (jd_le hd rfl) (E.2 ((jxw (y3 + 1)).toNat)) (E.2 ((jxw (y3 + 2)).toNat)) a1123_ b1123_ hv1123_ (SV_fr hg1 hf1123_ (fun _ => rfl) (fun _ => rfl))) (fun r1125_ a1125_ b1125_ h1125_ => ?_)
  obtain ⟨hv1125_, hf1125_, rfl, hq1125_0, hq1125_1⟩ := h1125_
  have h1126_ := iv_get hv1123_ (k := 146) (j := 9) (l := 0) (u := 300) rfl
  have h1127_ : a1123_ 146 9 = a 146 9 := hf1123_ 146 9 rfl
  have h1128_ := iv_get hv (k := 146) (j := 9) (l := 0) (u := 300) rfl
  have h1129_ := iv_get hv1125_ (k := 0) (j := 0) (l := 0) (u := 1999) rfl
  have h1130_ : a1125_ 0 0 = a1123_ 0 0 := hf1125_ 0 0 rfl
  have h1131_ := iv_get hv1123_ (k := 0) (j := 0) (l := 0) (u := 1999) rfl
  have h1132_ : a1123_ 0 0 = a 0 0 := hf1123_ 0 0 rfl
  have h1133_ := iv_get hv1125_ (k := 146) (j := 0) (l := 0) (u := 1999) rfl
  have h1134_ : a1125_ 146 0 = a1123_ 146 0 := hf1125_ 146 0 rfl
  have h1135_ := iv_get hv1123_ (k := 146) (j := 0) (l := 0) (u := 1999) rfl
  have h1136_ : a1123_ 146 0 = a 146 0 := hf1123_ 146 0 rfl
  have h1137_ := iv_get hv1125_ (k := 4) (j := 6) (l := 0) (u := 40) rfl
  have h1138_ : a1125_ 4 6 = a1123_ 4 6 := hf1125_ 4 6 rfl
  have h1139_ := iv_get hv1123_ (k := 4) (j := 6) (l := 0) (u := 40) rfl
  have h1140_ : a1123_ 4 6 = a 4 6 := hf1123_ 4 6 rfl
  have h1141_ := iv_get hv1125_ (k := 146) (j := 2) (l := 0) (u := 40) rfl
  have h1142_ : a1125_ 146 2 = a1123_ 146 2 := hf1125_ 146 2 rfl
  have h1143_ := iv_get hv1123_ (k := 146) (j := 2) (l := 0) (u := 40) rfl
  have h1144_ : a1123_ 146 2 = a 146 2 := hf1123_ 146 2 rfl
  have h1145_ := iv_get hv1125_ (k := 2) (j := 1) (l := 0) (u := 200) rfl
  have h1146_ : a1125_ 2 1 = a1123_ 2 1 := hf1125_ 2 1 rfl
  have h1147_ := iv_get hv1123_ (k := 2) (j := 1) (l := 0) (u := 200) rfl
  have h1148_ : a1123_ 2 1 = a 2 1 := hf1123_ 2 1 rfl
  have h1149_ := iv_get hv1125_ (k := 146) (j := 22) (l := 0) (u := 200) rfl
  have h1150_ : a1125_ 146 22 = a1123_ 146 22 := hf1125_ 146 22 rfl
  have h1151_ := iv_get hv1123_ (k := 146) (j := 22) (l := 0) (u := 200) rfl
  have h1152_ : a1123_ 146 22 = a 146 22 := hf1123_ 146 22 rfl
  have h1153_ := iv_get hv1125_ (k := 105) (j := 5) (l := 0) (u := 10) rfl
  have h1154_ : a1125_ 105 5 = a1123_ 105 5 := hf1125_ 105 5 rfl
  have h1155_ := iv_get hv1123_ (k := 105) (j := 5) (l := 0) (u := 10) rfl
  have h1156_ : a1123_ 105 5 = a 105 5 := hf1123_ 105 5 rfl
  have h1157_ := iv_get hv1125_ (k := 146) (j := 68) (l := 0) (u := 10) rfl
  have h1158_ : a1125_ 146 68 = a1123_ 146 68 := hf1125_ 146 68 rfl
  have h1159_ := iv_get hv1123_ (k := 146) (j := 68) (l := 0) (u := 10) rfl
  have h1160_ : a1123_ 146 68 = a 146 68 := hf1123_ 146 68 rfl
  exact hnext a1125_ b1123_ hv1125_ (WFW_fr (WFW_fr hg0 hf1123_ (fun _ => rfl) (fun _ => rfl)) hf1125_ (fun _ => rfl) (fun _ => rfl)) hq1125_0 (OC_fr (OC_fr hg2 hf1123_ rfl rfl (fun _ => rfl) (fun _ => rfl) (fun _ => rfl) (fun _ => rfl) (fun _ => rfl)) hf1125_ rfl rfl (fun _ => rfl) (fun _ => rfl) (fun _ => rfl) (fun _ => rfl) (fun _ => rfl)) (FO_fr (FO_fr hg3 hf1123_ rfl rfl (fun _ => rfl)) hf1125_ rfl rfl (fun _ => rfl)) (FW_fr (FW_fr hg4 hf1123_ rfl (fun _ => rfl)) hf1125_ rfl (fun _ => rfl)) (TAPE_fr (TAPE_fr hg5 hf1123_ (fun _ => rfl) (fun _ => rfl)) hf1125_ (fun _ => rfl) (fun _ => rfl)) (MEMR_fr (MEMR_fr hg6 hf1123_ (fun _ => rfl) (fun _ => rfl) (fun _ => rfl) (fun _ => rfl) (fun _ => rfl) (fun _ => rfl) (fun _ => rfl) (fun _ => rfl) (fun _ => rfl) (fun _ => rfl)) hf1125_ (fun _ => rfl) (fun _ => rfl) (fun _ => rfl) (fun _ => rfl) (fun _ => rfl) (fun _ => rfl) (fun _ => rfl) (fun _ => rfl) (fun _ => rfl) (fun _ => rfl)) (FARR_fr (FARR_fr hg7 hf1123_ (fun _ => rfl) (fun _ => rfl)) hf1125_ (fun _ => rfl) (fun _ => rfl)) (WISHR_fr (WISHR_fr hg8 hf1123_ (fun _ => rfl) (fun _ => rfl) (fun _ => rfl) (fun _ => rfl)) hf1125_ (fun _ => rfl) (fun _ => rfl) (fun _ => rfl) (fun _ => rfl)) (show a1125_ 0 0 = a1125_ 146 0 from by omega) (show a1125_ 4 6 = a1125_ 146 2 from by omega) (show a1125_ 2 1 = a1125_ 146 22 from by omega) (show a1125_ 105 5 = a1125_ 146 68 from by omega)
theorem lw_op1143 (E : jxE) (d : Nat) (hd : Nat.ble 60 (d + 1) = true) (hL : E.1 ≤ 3072) (y3 : Int) (hy0 : 0 ≤ y3) (hy1 : y3 + 6 ≤ E.1) (hnext : ∀ (a b : Nat → Nat → Int) (hv : iv a) (hg0 : WFW a) (hg1 : SV a) (hg2 : OC a) (hg3 : FO a) (hg4 : FW a) (hg5 : TAPE a) (hg6 : MEMR a) (hg7 : FARR a) (hg8 : WISHR a) (hr0 : a 0 0 = a 146 0) (hr1 : a 4 6 = a 146 2) (hr2 : a 2 1 = a 146 22) (hr3 : a 105 5 = a 146 68), jt (jxX E d 305 1189 [some (.inr (.inr (.inl 3000))), some (.inr (.inr (.inl 0))), some (.inr (.inr (.inl 146))), some (.inl y3)] [] (jxSH, a, b)) (fun v _ _ => v = [.inl 1])) (a b : Nat → Nat → Int) (hv : iv a) (hg0 : WFW a) (hg1 : SV a) (hg2 : OC a) (hg3 : FO a) (hg4 : FW a) (hg5 : TAPE a) (hg6 : MEMR a) (hg7 : FARR a) (hg8 : WISHR a) (hr0 : a 0 0 = a 146 0) (hr1 : a 4 6 = a 146 2) (hr2 : a 2 1 = a 146 22) (hr3 : a 105 5 = a 146 68) : jt (jxX E d 305 1143 [some (.inr (.inr (.inl 3000))), some (.inr (.inr (.inl 0))), some (.inr (.inr (.inl 146))), some (.inl y3)] [] (jxSH, a, b)) (fun v _ _ => v = [.inl 1]) := by
  refine jt_eq (bq_law_1143 E d y3 a b) ?_
  have h1161_ := iv_get hv (k := 0) (j := 0) (l := 0) (u := 1999) rfl
  have h1162_ := iv_get hv (k := 146) (j := 0) (l := 0) (u := 1999) rfl
  have h1163_ := iv_get hv (k := 4) (j := 6) (l := 0) (u := 40) rfl
  have h1164_ := iv_get hv (k := 146) (j := 2) (l := 0) (u := 40) rfl
  have h1165_ := iv_get hv (k := 2) (j := 1) (l := 0) (u := 200) rfl
  have h1166_ := iv_get hv (k := 146) (j := 22) (l := 0) (u := 200) rfl
  have h1167_ := iv_get hv (k := 105) (j := 5) (l := 0) (u := 10) rfl
  have h1168_ := iv_get hv (k := 146) (j := 68) (l := 0) (u := 10) rfl
  refine jt_bif (Nat.ble_eq_true_of_le (by omega)) ?_
  have h1169_ : jxw (y3 + 1) = y3 + 1 := jxw_id (by omega) (by omega)
  refine jt_grd (by omega) ?_
  refine jt_eI (eq_X11_paid E d (jd_le hd rfl) (E.2 ((jxw (y3 + 1)).toNat)) a b) ?_
  refine jt_eq (bq_law_1153 E d y3 a b) ?_
  refine jt_bif (Nat.ble_eq_true_of_le (by omega)) ?_
  refine jt_grd (by omega) ?_
  refine jt_eI (eq_X12_paid E d (jd_le hd rfl) (E.2 ((jxw (y3 + 1)).toNat)) a b) ?_
  exact hnext a b hv hg0 hg1 hg2 hg3 hg4 hg5 hg6 hg7 hg8 (show a 0 0 = a 146 0 from by omega) (show a 4 6 = a 146 2 from by omega) (show a 2 1 = a 146 22 from by omega) (show a 105 5 = a 146 68 from by omega)
theorem lw_op1166 (E : jxE) (d : Nat) (hd : Nat.ble 60 (d + 1) = true) (hL : E.1 ≤ 3072) (y3 : Int) (hy0 : 0 ≤ y3) (hy1 : y3 + 6 ≤ E.1) (hnext : ∀ (a b : Nat → Nat → Int) (hv : iv a) (hg0 : WFW a) (hg1 : SV a) (hg2 : OC a) (hg3 : FO a) (hg4 : FW a) (hg5 : TAPE a) (hg6 : MEMR a) (hg7 : FARR a) (hg8 : WISHR a) (hr0 : a 0 0 = a 146 0) (hr1 : a 4 6 = a 146 2) (hr2 : a 2 1 = a 146 22) (hr3 : a 105 5 = a 146 68), jt (jxX E d 305 1189 [some (.inr (.inr (.inl 3000))), some (.inr (.inr (.inl 0))), some (.inr (.inr (.inl 146))), some (.inl y3)] [] (jxSH, a, b)) (fun v _ _ => v = [.inl 1])) (a b : Nat → Nat → Int) (hv : iv a) (hg0 : WFW a) (hg1 : SV a) (hg2 : OC a) (hg3 : FO a) (hg4 : FW a) (hg5 : TAPE a) (hg6 : MEMR a) (hg7 : FARR a) (hg8 : WISHR a) (hr0 : a 0 0 = a 146 0) (hr1 : a 4 6 = a 146 2) (hr2 : a 2 1 = a 146 22) (hr3 : a 105 5 = a 146 68) : jt (jxX E d 305 1166 [some (.inr (.inr (.inl 3000))), some (.inr (.inr (.inl 0))), some (.inr (.inr (.inl 146))), some (.inl y3)] [] (jxSH, a, b)) (fun v _ _ => v = [.inl 1]) := by
  refine jt_eq (bq_law_1166 E d y3 a b) ?_
  have h1170_ := iv_get hv (k := 0) (j := 0) (l := 0) (u := 1999) rfl
  have h1171_ := iv_get hv (k := 146) (j := 0) (l := 0) (u := 1999) rfl
  have h1172_ := iv_get hv (k := 4) (j := 6) (l := 0) (u := 40) rfl
  have h1173_ := iv_get hv (k := 146) (j := 2) (l := 0) (u := 40) rfl
  have h1174_ := iv_get hv (k := 2) (j := 1) (l := 0) (u := 200) rfl
  have h1175_ := iv_get hv (k := 146) (j := 22) (l := 0) (u := 200) rfl
  have h1176_ := iv_get hv (k := 105) (j := 5) (l := 0) (u := 10) rfl
  have h1177_ := iv_get hv (k := 146) (j := 68) (l := 0) (u := 10) rfl
  refine jt_bif (Nat.ble_eq_true_of_le (by omega)) ?_
  have h1178_ : jxw (y3 + 1) = y3 + 1 := jxw_id (by omega) (by omega)
  refine jt_grd (by omega) ?_
  refine jt_bI (sp_X11_count E d (jd_le hd rfl) (E.2 ((jxw (y3 + 1)).toNat)) a b hv) (fun r1179_ a1179_ b1179_ h1179_ => ?_)
  obtain ⟨rfl, rfl, hq1179_0, hq1179_1, hq1179_2, hq1179_3, hq1179_4, hq1179_5, hq1179_6, hq1179_7, hq1179_8, hq1179_9, hq1179_10, hq1179_11, hq1179_12, hq1179_13, hq1179_14, hq1179_15, hq1179_16, hq1179_17⟩ := h1179_
  have h1180_ := iv_get hv (k := 58) (j := 8) (l := 0) (u := 300) rfl
  have h1181_ := iv_get hv (k := 58) (j := 12) (l := 0) (u := 600) rfl
  have h1182_ := iv_get hv (k := 83) (j := 6) (l := 0) (u := 20) rfl
  have h1183_ := iv_get hv (k := 0) (j := 9) (l := 0) (u := 8) rfl
  refine jt_eq (bq_law_1176 E d y3 a b) ?_
  refine jt_bif (Nat.ble_eq_true_of_le (by omega)) ?_
  refine jt_grd (by omega) ?_
  refine jt_bI (sp_X12_count E d (jd_le hd rfl) (E.2 ((jxw (y3 + 1)).toNat)) a b hv) (fun r1184_ a1184_ b1184_ h1184_ => ?_)
  obtain ⟨rfl, rfl, hq1184_0, hq1184_1, hq1184_2, hq1184_3, hq1184_4, hq1184_5, hq1184_6, hq1184_7, hq1184_8, hq1184_9, hq1184_10, hq1184_11, hq1184_12, hq1184_13⟩ := h1184_
  have h1185_ := iv_get hv (k := 146) (j := 9) (l := 0) (u := 300) rfl
  have h1186_ := iv_get hv (k := 146) (j := 17) (l := 0) (u := 600) rfl
  have h1187_ := iv_get hv (k := 146) (j := 49) (l := 0) (u := 20) rfl
  have h1188_ := iv_get hv (k := 146) (j := 42) (l := 0) (u := 8) rfl
  exact hnext a b hv hg0 hg1 hg2 hg3 hg4 hg5 hg6 hg7 hg8 (show a 0 0 = a 146 0 from by omega) (show a 4 6 = a 146 2 from by omega) (show a 2 1 = a 146 22 from by omega) (show a 105 5 = a 146 68 from by omega)
theorem lw_18 (E : jxE) (d : Nat) (hd : Nat.ble 60 (d + 1) = true) (hL : E.1 ≤ 3072) : ∀ n : Nat, ∀ (y3 : Int) (a b : Nat → Nat → Int), ((E.1 : Int) - y3).toNat ≤ n → 0 ≤ y3 → y3 ≤ 3078 → iv a → WFW a → SV a → OC a → FO a → FW a → TAPE a → MEMR a → FARR a → WISHR a → a 0 0 = a 146 0 → a 4 6 = a 146 2 → a 2 1 = a 146 22 → a 105 5 = a 146 68 → jt (jxX E d 305 18 [some (.inr (.inr (.inl 3000))), some (.inr (.inr (.inl 0))), some (.inr (.inr (.inl 146))), some (.inl y3)] [] (jxSH, a, b)) (fun v _ _ => v = [.inl 1]) := by
  refine jx_ind fun n ih => ?_
  intro y3 a b hm hy0 hy9 hv hg0 hg1 hg2 hg3 hg4 hg5 hg6 hg7 hg8 hr0 hr1 hr2 hr3
  refine jt_eq (bq_law_18 E d y3 a b) ?_
  have hnext0 : y3 + 6 ≤ E.1 → ∀ (a b : Nat → Nat → Int) (hv : iv a) (hg0 : WFW a) (hg1 : SV a) (hg2 : OC a) (hg3 : FO a) (hg4 : FW a) (hg5 : TAPE a) (hg6 : MEMR a) (hg7 : FARR a) (hg8 : WISHR a) (hr0 : a 0 0 = a 146 0) (hr1 : a 4 6 = a 146 2) (hr2 : a 2 1 = a 146 22) (hr3 : a 105 5 = a 146 68), jt (jxX E d 305 1189 [some (.inr (.inr (.inl 3000))), some (.inr (.inr (.inl 0))), some (.inr (.inr (.inl 146))), some (.inl y3)] [] (jxSH, a, b)) (fun v _ _ => v = [.inl 1]) := fun hlt a b hv hg0 hg1 hg2 hg3 hg4 hg5 hg6 hg7 hg8 hr0 hr1 hr2 hr3 => by
    refine jt_eq (bq_law_1189 E d y3 a b) ?_
    have e : jxw (y3 + 6) = y3 + 6 := jxw_id (by omega) (by omega)
    rw [e]
    exact ih ((E.1 : Int) - (y3 + 6)).toNat (by omega) (y3 + 6) a b (Nat.le_refl _) (by omega) (by omega) hv hg0 hg1 hg2 hg3 hg4 hg5 hg6 hg7 hg8 hr0 hr1 hr2 hr3
  refine jt_bif (Nat.ble_eq_true_of_le (by omega)) ?_
  have e6 : jxw ((E.1 : Int) - 6) = (E.1 : Int) - 6 := jxw_id (by omega) (by omega)
  refine jt_ite (fun c1 => ?_) (fun c1 => ?_)
  · exact ⟨_, _, _, rfl, rfl⟩
  ·
    have hy1 : y3 + 6 ≤ E.1 := by omega
    have hnext := hnext0 hy1
    refine jt_bif (Nat.ble_eq_true_of_le (by omega)) ?_
    refine jt_grd (by omega) ?_
    have h1189_ := jxand_r (E.2 (y3.toNat)) 63 (by decide) (by decide)
    refine jt_ite (fun c1190_ => ?_) (fun c1190_ => ?_)
    ·
      have h1191_ := iv_get hv (k := 0) (j := 0) (l := 0) (u := 1999) rfl
      have h1192_ := iv_get hv (k := 146) (j := 0) (l := 0) (u := 1999) rfl
      have h1193_ := iv_get hv (k := 4) (j := 6) (l := 0) (u := 40) rfl
      have h1194_ := iv_get hv (k := 146) (j := 2) (l := 0) (u := 40) rfl
      have h1195_ := iv_get hv (k := 2) (j := 1) (l := 0) (u := 200) rfl
      have h1196_ := iv_get hv (k := 146) (j := 22) (l := 0) (u := 200) rfl
      have h1197_ := iv_get hv (k := 105) (j := 5) (l := 0) (u := 10) rfl
      have h1198_ := iv_get hv (k := 146) (j := 68) (l := 0) (u := 10) rfl
      exact hnext a b hv hg0 hg1 hg2 hg3 hg4 hg5 hg6 hg7 hg8 (show a 0 0 = a 146 0 from by omega) (show a 4 6 = a 146 2 from by omega) (show a 2 1 = a 146 22 from by omega) (show a 105 5 = a 146 68 from by omega)
    ·
      refine jt_ite (fun c1199_ => ?_) (fun c1199_ => ?_)
      ·
        have h1200_ := iv_get hv (k := 0) (j := 0) (l := 0) (u := 1999) rfl
        have h1201_ := iv_get hv (k := 146) (j := 0) (l := 0) (u := 1999) rfl
        have h1202_ := iv_get hv (k := 4) (j := 6) (l := 0) (u := 40) rfl
        have h1203_ := iv_get hv (k := 146) (j := 2) (l := 0) (u := 40) rfl
        have h1204_ := iv_get hv (k := 2) (j := 1) (l := 0) (u := 200) rfl
        have h1205_ := iv_get hv (k := 146) (j := 22) (l := 0) (u := 200) rfl
        have h1206_ := iv_get hv (k := 105) (j := 5) (l := 0) (u := 10) rfl
        have h1207_ := iv_get hv (k := 146) (j := 68) (l := 0) (u := 10) rfl
        exact lw_op180 E d hd hL y3 hy0 (by omega) hnext a b hv hg0 hg1 hg2 hg3 hg4 hg5 hg6 hg7 hg8 (show a 0 0 = a 146 0 from by omega) (show a 4 6 = a 146 2 from by omega) (show a 2 1 = a 146 22 from by omega) (show a 105 5 = a 146 68 from by omega)
      ·
        refine jt_ite (fun c1208_ => ?_) (fun c1208_ => ?_)
        ·
          have h1209_ := iv_get hv (k := 0) (j := 0) (l := 0) (u := 1999) rfl
          have h1210_ := iv_get hv (k := 146) (j := 0) (l := 0) (u := 1999) rfl
          have h1211_ := iv_get hv (k := 4) (j := 6) (l := 0) (u := 40) rfl
          have h1212_ := iv_get hv (k := 146) (j := 2) (l := 0) (u := 40) rfl
          have h1213_ := iv_get hv (k := 2) (j := 1) (l := 0) (u := 200) rfl
          have h1214_ := iv_get hv (k := 146) (j := 22) (l := 0) (u := 200) rfl
          have h1215_ := iv_get hv (k := 105) (j := 5) (l := 0) (u := 10) rfl
          have h1216_ := iv_get hv (k := 146) (j := 68) (l := 0) (u := 10) rfl
          exact lw_op203 E d hd hL y3 hy0 (by omega) hnext a b hv hg0 hg1 hg2 hg3 hg4 hg5 hg6 hg7 hg8 (show a 0 0 = a 146 0 from by omega) (show a 4 6 = a 146 2 from by omega) (show a 2 1 = a 146 22 from by omega) (show a 105 5 = a 146 68 from by omega)
        ·
          refine jt_ite (fun c1217_ => ?_) (fun c1217_ => ?_)
          ·
            have h1218_ := iv_get hv (k := 0) (j := 0) (l := 0) (u := 1999) rfl
            have h1219_ := iv_get hv (k := 146) (j := 0) (l := 0) (u := 1999) rfl
            have h1220_ := iv_get hv (k := 4) (j := 6) (l := 0) (u := 40) rfl
            have h1221_ := iv_get hv (k := 146) (j := 2) (l := 0) (u := 40) rfl
            have h1222_ := iv_get hv (k := 2) (j := 1) (l := 0) (u := 200) rfl
            have h1223_ := iv_get hv (k := 146) (j := 22) (l := 0) (u := 200) rfl
            have h1224_ := iv_get hv (k := 105) (j := 5) (l := 0) (u := 10) rfl
            have h1225_ := iv_get hv (k := 146) (j := 68) (l := 0) (u := 10) rfl
            exact lw_op246 E d hd hL y3 hy0 (by omega) hnext a b hv hg0 hg1 hg2 hg3 hg4 hg5 hg6 hg7 hg8 (show a 0 0 = a 146 0 from by omega) (show a 4 6 = a 146 2 from by omega) (show a 2 1 = a 146 22 from by omega) (show a 105 5 = a 146 68 from by omega)
          ·
            refine jt_ite (fun c1226_ => ?_) (fun c1226_ => ?_)
            ·
              have h1227_ := iv_get hv (k := 0) (j := 0) (l := 0) (u := 1999) rfl
              have h1228_ := iv_get hv (k := 146) (j := 0) (l := 0) (u := 1999) rfl
              have h1229_ := iv_get hv (k := 4) (j := 6) (l := 0) (u := 40) rfl
              have h1230_ := iv_get hv (k := 146) (j := 2) (l := 0) (u := 40) rfl
              have h1231_ := iv_get hv (k := 2) (j := 1) (l := 0) (u := 200) rfl
              have h1232_ := iv_get hv (k := 146) (j := 22) (l := 0) (u := 200) rfl
              have h1233_ := iv_get hv (k := 105) (j := 5) (l := 0) (u := 10) rfl
              have h1234_ := iv_get hv (k := 146) (j := 68) (l := 0) (u := 10) rfl
              exact lw_op289 E d hd hL y3 hy0 (by omega) hnext a b hv hg0 hg1 hg2 hg3 hg4 hg5 hg6 hg7 hg8 (show a 0 0 = a 146 0 from by omega) (show a 4 6 = a 146 2 from by omega) (show a 2 1 = a 146 22 from by omega) (show a 105 5 = a 146 68 from by omega)
            ·
              refine jt_ite (fun c1235_ => ?_) (fun c1235_ => ?_)
              ·
                have h1236_ := iv_get hv (k := 0) (j := 0) (l := 0) (u := 1999) rfl
                have h1237_ := iv_get hv (k := 146) (j := 0) (l := 0) (u := 1999) rfl
                have h1238_ := iv_get hv (k := 4) (j := 6) (l := 0) (u := 40) rfl
                have h1239_ := iv_get hv (k := 146) (j := 2) (l := 0) (u := 40) rfl
                have h1240_ := iv_get hv (k := 2) (j := 1) (l := 0) (u := 200) rfl
                have h1241_ := iv_get hv (k := 146) (j := 22) (l := 0) (u := 200) rfl
                have h1242_ := iv_get hv (k := 105) (j := 5) (l := 0) (u := 10) rfl
                have h1243_ := iv_get hv (k := 146) (j := 68) (l := 0) (u := 10) rfl
                exact lw_op312 E d hd hL y3 hy0 (by omega) hnext a b hv hg0 hg1 hg2 hg3 hg4 hg5 hg6 hg7 hg8 (show a 0 0 = a 146 0 from by omega) (show a 4 6 = a 146 2 from by omega) (show a 2 1 = a 146 22 from by omega) (show a 105 5 = a 146 68 from by omega)
              ·
                refine jt_ite (fun c1244_ => ?_) (fun c1244_ => ?_)
                ·
                  have h1245_ := iv_get hv (k := 0) (j := 0) (l := 0) (u := 1999) rfl
                  have h1246_ := iv_get hv (k := 146) (j := 0) (l := 0) (u := 1999) rfl
                  have h1247_ := iv_get hv (k := 4) (j := 6) (l := 0) (u := 40) rfl
                  have h1248_ := iv_get hv (k := 146) (j := 2) (l := 0) (u := 40) rfl
                  have h1249_ := iv_get hv (k := 2) (j := 1) (l := 0) (u := 200) rfl
                  have h1250_ := iv_get hv (k := 146) (j := 22) (l := 0) (u := 200) rfl
                  have h1251_ := iv_get hv (k := 105) (j := 5) (l := 0) (u := 10) rfl
                  have h1252_ := iv_get hv (k := 146) (j := 68) (l := 0) (u := 10) rfl
                  exact lw_op375 E d hd hL y3 hy0 (by omega) hnext a b hv hg0 hg1 hg2 hg3 hg4 hg5 hg6 hg7 hg8 (show a 0 0 = a 146 0 from by omega) (show a 4 6 = a 146 2 from by omega) (show a 2 1 = a 146 22 from by omega) (show a 105 5 = a 146 68 from by omega)
                ·
                  refine jt_ite (fun c1253_ => ?_) (fun c1253_ => ?_)
                  ·
                    have h1254_ := iv_get hv (k := 0) (j := 0) (l := 0) (u := 1999) rfl
                    have h1255_ := iv_get hv (k := 146) (j := 0) (l := 0) (u := 1999) rfl
                    have h1256_ := iv_get hv (k := 4) (j := 6) (l := 0) (u := 40) rfl
                    have h1257_ := iv_get hv (k := 146) (j := 2) (l := 0) (u := 40) rfl
                    have h1258_ := iv_get hv (k := 2) (j := 1) (l := 0) (u := 200) rfl
                    have h1259_ := iv_get hv (k := 146) (j := 22) (l := 0) (u := 200) rfl
                    have h1260_ := iv_get hv (k := 105) (j := 5) (l := 0) (u := 10) rfl
                    have h1261_ := iv_get hv (k := 146) (j := 68) (l := 0) (u := 10) rfl
                    exact lw_op398 E d hd hL y3 hy0 (by omega) hnext a b hv hg0 hg1 hg2 hg3 hg4 hg5 hg6 hg7 hg8 (show a 0 0 = a 146 0 from by omega) (show a 4 6 = a 146 2 from by omega) (show a 2 1 = a 146 22 from by omega) (show a 105 5 = a 146 68 from by omega)
                  ·
                    refine jt_ite (fun c1262_ => ?_) (fun c1262_ => ?_)
                    ·
                      have h1263_ := iv_get hv (k := 0) (j := 0) (l := 0) (u := 1999) rfl
                      have h1264_ := iv_get hv (k := 146) (j := 0) (l := 0) (u := 1999) rfl
                      have h1265_ := iv_get hv (k := 4) (j := 6) (l := 0) (u := 40) rfl
                      have h1266_ := iv_get hv (k := 146) (j := 2) (l := 0) (u := 40) rfl
                      have h1267_ := iv_get hv (k := 2) (j := 1) (l := 0) (u := 200) rfl
                      have h1268_ := iv_get hv (k := 146) (j := 22) (l := 0) (u := 200) rfl
                      have h1269_ := iv_get hv (k := 105) (j := 5) (l := 0) (u := 10) rfl
                      have h1270_ := iv_get hv (k := 146) (j := 68) (l := 0) (u := 10) rfl
                      exact lw_op421 E d hd hL y3 hy0 (by omega) hnext a b hv hg0 hg1 hg2 hg3 hg4 hg5 hg6 hg7 hg8 (show a 0 0 = a 146 0 from by omega) (show a 4 6 = a 146 2 from by omega) (show a 2 1 = a 146 22 from by omega) (show a 105 5 = a 146 68 from by omega)
                    ·
                      refine jt_ite (fun c1271_ => ?_) (fun c1271_ => ?_)
                      ·
                        have h1272_ := iv_get hv (k := 0) (j := 0) (l := 0) (u := 1999) rfl
                        have h1273_ := iv_get hv (k := 146) (j := 0) (l := 0) (u := 1999) rfl
                        have h1274_ := iv_get hv (k := 4) (j := 6) (l := 0) (u := 40) rfl
                        have h1275_ := iv_get hv (k := 146) (j := 2) (l := 0) (u := 40) rfl
                        have h1276_ := iv_get hv (k := 2) (j := 1) (l := 0) (u := 200) rfl
                        have h1277_ := iv_get hv (k := 146) (j := 22) (l := 0) (u := 200) rfl
                        have h1278_ := iv_get hv (k := 105) (j := 5) (l := 0) (u := 10) rfl
                        have h1279_ := iv_get hv (k := 146) (j := 68) (l := 0) (u := 10) rfl
                        exact lw_op454 E d hd hL y3 hy0 (by omega) hnext a b hv hg0 hg1 hg2 hg3 hg4 hg5 hg6 hg7 hg8 (show a 0 0 = a 146 0 from by omega) (show a 4 6 = a 146 2 from by omega) (show a 2 1 = a 146 22 from by omega) (show a 105 5 = a 146 68 from by omega)
                      ·
                        refine jt_ite (fun c1280_ => ?_) (fun c1280_ => ?_)
                        ·
                          have h1281_ := iv_get hv (k := 0) (j := 0) (l := 0) (u := 1999) rfl
                          have h1282_ := iv_get hv (k := 146) (j := 0) (l := 0) (u := 1999) rfl
                          have h1283_ := iv_get hv (k := 4) (j := 6) (l := 0) (u := 40) rfl
                          have h1284_ := iv_get hv (k := 146) (j := 2) (l := 0) (u := 40) rfl
                          have h1285_ := iv_get hv (k := 2) (j := 1) (l := 0) (u := 200) rfl
                          have h1286_ := iv_get hv (k := 146) (j := 22) (l := 0) (u := 200) rfl
                          have h1287_ := iv_get hv (k := 105) (j := 5) (l := 0) (u := 10) rfl
                          have h1288_ := iv_get hv (k := 146) (j := 68) (l := 0) (u := 10) rfl
                          exact lw_op467 E d hd hL y3 hy0 (by omega) hnext a b hv hg0 hg1 hg2 hg3 hg4 hg5 hg6 hg7 hg8 (show a 0 0 = a 146 0 from by omega) (show a 4 6 = a 146 2 from by omega) (show a 2 1 = a 146 22 from by omega) (show a 105 5 = a 146 68 from by omega)
                        ·
                          refine jt_ite (fun c1289_ => ?_) (fun c1289_ => ?_)
                          ·
                            have h1290_ := iv_get hv (k := 0) (j := 0) (l := 0) (u := 1999) rfl
                            have h1291_ := iv_get hv (k := 146) (j := 0) (l := 0) (u := 1999) rfl
                            have h1292_ := iv_get hv (k := 4) (j := 6) (l := 0) (u := 40) rfl
                            have h1293_ := iv_get hv (k := 146) (j := 2) (l := 0) (u := 40) rfl
                            have h1294_ := iv_get hv (k := 2) (j := 1) (l := 0) (u := 200) rfl
                            have h1295_ := iv_get hv (k := 146) (j := 22) (l := 0) (u := 200) rfl
                            have h1296_ := iv_get hv (k := 105) (j := 5) (l := 0) (u := 10) rfl
                            have h1297_ := iv_get hv (k := 146) (j := 68) (l := 0) (u := 10) rfl
                            exact lw_op490 E d hd hL y3 hy0 (by omega) hnext a b hv hg0 hg1 hg2 hg3 hg4 hg5 hg6 hg7 hg8 (show a 0 0 = a 146 0 from by omega) (show a 4 6 = a 146 2 from by omega) (show a 2 1 = a 146 22 from by omega) (show a 105 5 = a 146 68 from by omega)
                          ·
                            refine jt_ite (fun c1298_ => ?_) (fun c1298_ => ?_)
                            ·
                              have h1299_ := iv_get hv (k := 0) (j := 0) (l := 0) (u := 1999) rfl
                              have h1300_ := iv_get hv (k := 146) (j := 0) (l := 0) (u := 1999) rfl
                              have h1301_ := iv_get hv (k := 4) (j := 6) (l := 0) (u := 40) rfl
                              have h1302_ := iv_get hv (k := 146) (j := 2) (l := 0) (u := 40) rfl
                              have h1303_ := iv_get hv (k := 2) (j := 1) (l := 0) (u := 200) rfl
                              have h1304_ := iv_get hv (k := 146) (j := 22) (l := 0) (u := 200) rfl
                              have h1305_ := iv_get hv (k := 105) (j := 5) (l := 0) (u := 10) rfl
                              have h1306_ := iv_get hv (k := 146) (j := 68) (l := 0) (u := 10) rfl
                              exact lw_op523 E d hd hL y3 hy0 (by omega) hnext a b hv hg0 hg1 hg2 hg3 hg4 hg5 hg6 hg7 hg8 (show a 0 0 = a 146 0 from by omega) (show a 4 6 = a 146 2 from by omega) (show a 2 1 = a 146 22 from by omega) (show a 105 5 = a 146 68 from by omega)
                            ·
                              refine jt_ite (fun c1307_ => ?_) (fun c1307_ => ?_)
                              ·
                                have h1308_ := iv_get hv (k := 0) (j := 0) (l := 0) (u := 1999) rfl
                                have h1309_ := iv_get hv (k := 146) (j := 0) (l := 0) (u := 1999) rfl
                                have h1310_ := iv_get hv (k := 4) (j := 6) (l := 0) (u := 40) rfl
                                have h1311_ := iv_get hv (k := 146) (j := 2) (l := 0) (u := 40) rfl
                                have h1312_ := iv_get hv (k := 2) (j := 1) (l := 0) (u := 200) rfl
                                have h1313_ := iv_get hv (k := 146) (j := 22) (l := 0) (u := 200) rfl
                                have h1314_ := iv_get hv (k := 105) (j := 5) (l := 0) (u := 10) rfl
                                have h1315_ := iv_get hv (k := 146) (j := 68) (l := 0) (u := 10) rfl
                                exact lw_op546 E d hd hL y3 hy0 (by omega) hnext a b hv hg0 hg1 hg2 hg3 hg4 hg5 hg6 hg7 hg8 (show a 0 0 = a 146 0 from by omega) (show a 4 6 = a 146 2 from by omega) (show a 2 1 = a 146 22 from by omega) (show a 105 5 = a 146 68 from by omega)
                              ·
                                refine jt_ite (fun c1316_ => ?_) (fun c1316_ => ?_)
                                ·
                                  have h1317_ := iv_get hv (k := 0) (j := 0) (l := 0) (u := 1999) rfl
                                  have h1318_ := iv_get hv (k := 146) (j := 0) (l := 0) (u := 1999) rfl
                                  have h1319_ := iv_get hv (k := 4) (j := 6) (l := 0) (u := 40) rfl
                                  have h1320_ := iv_get hv (k := 146) (j := 2) (l := 0) (u := 40) rfl
                                  have h1321_ := iv_get hv (k := 2) (j := 1) (l := 0) (u := 200) rfl
                                  have h1322_ := iv_get hv (k := 146) (j := 22) (l := 0) (u := 200) rfl
                                  have h1323_ := iv_get hv (k := 105) (j := 5) (l := 0) (u := 10) rfl
                                  have h1324_ := iv_get hv (k := 146) (j := 68) (l := 0) (u := 10) rfl
                                  exact lw_op559 E d hd hL y3 hy0 (by omega) hnext a b hv hg0 hg1 hg2 hg3 hg4 hg5 hg6 hg7 hg8 (show a 0 0 = a 146 0 from by omega) (show a 4 6 = a 146 2 from by omega) (show a 2 1 = a 146 22 from by omega) (show a 105 5 = a 146 68 from by omega)
                                ·
                                  refine jt_ite (fun c1325_ => ?_) (fun c1325_ => ?_)
                                  ·
                                    have h1326_ := iv_get hv (k := 0) (j := 0) (l := 0) (u := 1999) rfl
                                    have h1327_ := iv_get hv (k := 146) (j := 0) (l := 0) (u := 1999) rfl
                                    have h1328_ := iv_get hv (k := 4) (j := 6) (l := 0) (u := 40) rfl
                                    have h1329_ := iv_get hv (k := 146) (j := 2) (l := 0) (u := 40) rfl
                                    have h1330_ := iv_get hv (k := 2) (j := 1) (l := 0) (u := 200) rfl
                                    have h1331_ := iv_get hv (k := 146) (j := 22) (l := 0) (u := 200) rfl
                                    have h1332_ := iv_get hv (k := 105) (j := 5) (l := 0) (u := 10) rfl
                                    have h1333_ := iv_get hv (k := 146) (j := 68) (l := 0) (u := 10) rfl
                                    exact lw_op592 E d hd hL y3 hy0 (by omega) hnext a b hv hg0 hg1 hg2 hg3 hg4 hg5 hg6 hg7 hg8 (show a 0 0 = a 146 0 from by omega) (show a 4 6 = a 146 2 from by omega) (show a 2 1 = a 146 22 from by omega) (show a 105 5 = a 146 68 from by omega)
                                  ·
                                    refine jt_ite (fun c1334_ => ?_) (fun c1334_ => ?_)
                                    ·
                                      have h1335_ := iv_get hv (k := 0) (j := 0) (l := 0) (u := 1999) rfl
                                      have h1336_ := iv_get hv (k := 146) (j := 0) (l := 0) (u := 1999) rfl
                                      have h1337_ := iv_get hv (k := 4) (j := 6) (l := 0) (u := 40) rfl
                                      have h1338_ := iv_get hv (k := 146) (j := 2) (l := 0) (u := 40) rfl
                                      have h1339_ := iv_get hv (k := 2) (j := 1) (l := 0) (u := 200) rfl
                                      have h1340_ := iv_get hv (k := 146) (j := 22) (l := 0) (u := 200) rfl
                                      have h1341_ := iv_get hv (k := 105) (j := 5) (l := 0) (u := 10) rfl
                                      have h1342_ := iv_get hv (k := 146) (j := 68) (l := 0) (u := 10) rfl
                                      exact lw_op615 E d hd hL y3 hy0 (by omega) hnext a b hv hg0 hg1 hg2 hg3 hg4 hg5 hg6 hg7 hg8 (show a 0 0 = a 146 0 from by omega) (show a 4 6 = a 146 2 from by omega) (show a 2 1 = a 146 22 from by omega) (show a 105 5 = a 146 68 from by omega)
                                    ·
                                      refine jt_ite (fun c1343_ => ?_) (fun c1343_ => ?_)
                                      ·
                                        have h1344_ := iv_get hv (k := 0) (j := 0) (l := 0) (u := 1999) rfl
                                        have h1345_ := iv_get hv (k := 146) (j := 0) (l := 0) (u := 1999) rfl
                                        have h1346_ := iv_get hv (k := 4) (j := 6) (l := 0) (u := 40) rfl
                                        have h1347_ := iv_get hv (k := 146) (j := 2) (l := 0) (u := 40) rfl
                                        have h1348_ := iv_get hv (k := 2) (j := 1) (l := 0) (u := 200) rfl
                                        have h1349_ := iv_get hv (k := 146) (j := 22) (l := 0) (u := 200) rfl
                                        have h1350_ := iv_get hv (k := 105) (j := 5) (l := 0) (u := 10) rfl
                                        have h1351_ := iv_get hv (k := 146) (j := 68) (l := 0) (u := 10) rfl
                                        exact lw_op648 E d hd hL y3 hy0 (by omega) hnext a b hv hg0 hg1 hg2 hg3 hg4 hg5 hg6 hg7 hg8 (show a 0 0 = a 146 0 from by omega) (show a 4 6 = a 146 2 from by omega) (show a 2 1 = a 146 22 from by omega) (show a 105 5 = a 146 68 from by omega)
                                      ·
                                        refine jt_ite (fun c1352_ => ?_) (fun c1352_ => ?_)
                                        ·
                                          have h1353_ := iv_get hv (k := 0) (j := 0) (l := 0) (u := 1999) rfl
                                          have h1354_ := iv_get hv (k := 146) (j := 0) (l := 0) (u := 1999) rfl
                                          have h1355_ := iv_get hv (k := 4) (j := 6) (l := 0) (u := 40) rfl
                                          have h1356_ := iv_get hv (k := 146) (j := 2) (l := 0) (u := 40) rfl
                                          have h1357_ := iv_get hv (k := 2) (j := 1) (l := 0) (u := 200) rfl
                                          have h1358_ := iv_get hv (k := 146) (j := 22) (l := 0) (u := 200) rfl
                                          have h1359_ := iv_get hv (k := 105) (j := 5) (l := 0) (u := 10) rfl
                                          have h1360_ := iv_get hv (k := 146) (j := 68) (l := 0) (u := 10) rfl
                                          exact lw_op691 E d hd hL y3 hy0 (by omega) hnext a b hv hg0 hg1 hg2 hg3 hg4 hg5 hg6 hg7 hg8 (show a 0 0 = a 146 0 from by omega) (show a 4 6 = a 146 2 from by omega) (show a 2 1 = a 146 22 from by omega) (show a 105 5 = a 146 68 from by omega)
                                        ·
                                          refine jt_ite (fun c1361_ => ?_) (fun c1361_ => ?_)
                                          ·
                                            have h1362_ := iv_get hv (k := 0) (j := 0) (l := 0) (u := 1999) rfl
                                            have h1363_ := iv_get hv (k := 146) (j := 0) (l := 0) (u := 1999) rfl
                                            have h1364_ := iv_get hv (k := 4) (j := 6) (l := 0) (u := 40) rfl
                                            have h1365_ := iv_get hv (k := 146) (j := 2) (l := 0) (u := 40) rfl
                                            have h1366_ := iv_get hv (k := 2) (j := 1) (l := 0) (u := 200) rfl
                                            have h1367_ := iv_get hv (k := 146) (j := 22) (l := 0) (u := 200) rfl
                                            have h1368_ := iv_get hv (k := 105) (j := 5) (l := 0) (u := 10) rfl
                                            have h1369_ := iv_get hv (k := 146) (j := 68) (l := 0) (u := 10) rfl
                                            exact lw_op724 E d hd hL y3 hy0 (by omega) hnext a b hv hg0 hg1 hg2 hg3 hg4 hg5 hg6 hg7 hg8 (show a 0 0 = a 146 0 from by omega) (show a 4 6 = a 146 2 from by omega) (show a 2 1 = a 146 22 from by omega) (show a 105 5 = a 146 68 from by omega)
                                          ·
                                            refine jt_ite (fun c1370_ => ?_) (fun c1370_ => ?_)
                                            ·
                                              have h1371_ := iv_get hv (k := 0) (j := 0) (l := 0) (u := 1999) rfl
                                              have h1372_ := iv_get hv (k := 146) (j := 0) (l := 0) (u := 1999) rfl
                                              have h1373_ := iv_get hv (k := 4) (j := 6) (l := 0) (u := 40) rfl
                                              have h1374_ := iv_get hv (k := 146) (j := 2) (l := 0) (u := 40) rfl
                                              have h1375_ := iv_get hv (k := 2) (j := 1) (l := 0) (u := 200) rfl
                                              have h1376_ := iv_get hv (k := 146) (j := 22) (l := 0) (u := 200) rfl
                                              have h1377_ := iv_get hv (k := 105) (j := 5) (l := 0) (u := 10) rfl
                                              have h1378_ := iv_get hv (k := 146) (j := 68) (l := 0) (u := 10) rfl
                                              exact lw_op747 E d hd hL y3 hy0 (by omega) hnext a b hv hg0 hg1 hg2 hg3 hg4 hg5 hg6 hg7 hg8 (show a 0 0 = a 146 0 from by omega) (show a 4 6 = a 146 2 from by omega) (show a 2 1 = a 146 22 from by omega) (show a 105 5 = a 146 68 from by omega)
                                            ·
                                              refine jt_ite (fun c1379_ => ?_) (fun c1379_ => ?_)
                                              ·
                                                have h1380_ := iv_get hv (k := 0) (j := 0) (l := 0) (u := 1999) rfl
                                                have h1381_ := iv_get hv (k := 146) (j := 0) (l := 0) (u := 1999) rfl
                                                have h1382_ := iv_get hv (k := 4) (j := 6) (l := 0) (u := 40) rfl
                                                have h1383_ := iv_get hv (k := 146) (j := 2) (l := 0) (u := 40) rfl
                                                have h1384_ := iv_get hv (k := 2) (j := 1) (l := 0) (u := 200) rfl
                                                have h1385_ := iv_get hv (k := 146) (j := 22) (l := 0) (u := 200) rfl
                                                have h1386_ := iv_get hv (k := 105) (j := 5) (l := 0) (u := 10) rfl
                                                have h1387_ := iv_get hv (k := 146) (j := 68) (l := 0) (u := 10) rfl
                                                exact lw_op790 E d hd hL y3 hy0 (by omega) hnext a b hv hg0 hg1 hg2 hg3 hg4 hg5 hg6 hg7 hg8 (show a 0 0 = a 146 0 from by omega) (show a 4 6 = a 146 2 from by omega) (show a 2 1 = a 146 22 from by omega) (show a 105 5 = a 146 68 from by omega)
                                              ·
                                                refine jt_ite (fun c1388_ => ?_) (fun c1388_ => ?_)
                                                ·
                                                  have h1389_ := iv_get hv (k := 0) (j := 0) (l := 0) (u := 1999) rfl
                                                  have h1390_ := iv_get hv (k := 146) (j := 0) (l := 0) (u := 1999) rfl
                                                  have h1391_ := iv_get hv (k := 4) (j := 6) (l := 0) (u := 40) rfl
                                                  have h1392_ := iv_get hv (k := 146) (j := 2) (l := 0) (u := 40) rfl
                                                  have h1393_ := iv_get hv (k := 2) (j := 1) (l := 0) (u := 200) rfl
                                                  have h1394_ := iv_get hv (k := 146) (j := 22) (l := 0) (u := 200) rfl
                                                  have h1395_ := iv_get hv (k := 105) (j := 5) (l := 0) (u := 10) rfl
                                                  have h1396_ := iv_get hv (k := 146) (j := 68) (l := 0) (u := 10) rfl
                                                  exact lw_op833 E d hd hL y3 hy0 (by omega) hnext a b hv hg0 hg1 hg2 hg3 hg4 hg5 hg6 hg7 hg8 (show a 0 0 = a 146 0 from by omega) (show a 4 6 = a 146 2 from by omega) (show a 2 1 = a 146 22 from by omega) (show a 105 5 = a 146 68 from by omega)
                                                ·
                                                  refine jt_ite (fun c1397_ => ?_) (fun c1397_ => ?_)
                                                  ·
                                                    have h1398_ := iv_get hv (k := 0) (j := 0) (l := 0) (u := 1999) rfl
                                                    have h1399_ := iv_get hv (k := 146) (j := 0) (l := 0) (u := 1999) rfl
                                                    have h1400_ := iv_get hv (k := 4) (j := 6) (l := 0) (u := 40) rfl
                                                    have h1401_ := iv_get hv (k := 146) (j := 2) (l := 0) (u := 40) rfl
                                                    have h1402_ := iv_get hv (k := 2) (j := 1) (l := 0) (u := 200) rfl
                                                    have h1403_ := iv_get hv (k := 146) (j := 22) (l := 0) (u := 200) rfl
                                                    have h1404_ := iv_get hv (k := 105) (j := 5) (l := 0) (u := 10) rfl
                                                    have h1405_ := iv_get hv (k := 146) (j := 68) (l := 0) (u := 10) rfl
                                                    exact lw_op856 E d hd hL y3 hy0 (by omega) hnext a b hv hg0 hg1 hg2 hg3 hg4 hg5 hg6 hg7 hg8 (show a 0 0 = a 146 0 from by omega) (show a 4 6 = a 146 2 from by omega) (show a 2 1 = a 146 22 from by omega) (show a 105 5 = a 146 68 from by omega)
                                                  ·
                                                    refine jt_ite (fun c1406_ => ?_) (fun c1406_ => ?_)
                                                    ·
                                                      have h1407_ := iv_get hv (k := 0) (j := 0) (l := 0) (u := 1999) rfl
                                                      have h1408_ := iv_get hv (k := 146) (j := 0) (l := 0) (u := 1999) rfl
                                                      have h1409_ := iv_get hv (k := 4) (j := 6) (l := 0) (u := 40) rfl
                                                      have h1410_ := iv_get hv (k := 146) (j := 2) (l := 0) (u := 40) rfl
                                                      have h1411_ := iv_get hv (k := 2) (j := 1) (l := 0) (u := 200) rfl
                                                      have h1412_ := iv_get hv (k := 146) (j := 22) (l := 0) (u := 200) rfl
                                                      have h1413_ := iv_get hv (k := 105) (j := 5) (l := 0) (u := 10) rfl
                                                      have h1414_ := iv_get hv (k := 146) (j := 68) (l := 0) (u := 10) rfl
                                                      exact lw_op869 E d hd hL y3 hy0 (by omega) hnext a b hv hg0 hg1 hg2 hg3 hg4 hg5 hg6 hg7 hg8 (show a 0 0 = a 146 0 from by omega) (show a 4 6 = a 146 2 from by omega) (show a 2 1 = a 146 22 from by omega) (show a 105 5 = a 146 68 from by omega)
                                                    ·
                                                      refine jt_ite (fun c1415_ => ?_) (fun c1415_ => ?_)
                                                      ·
                                                        have h1416_ := iv_get hv (k := 0) (j := 0) (l := 0) (u := 1999) rfl
                                                        have h1417_ := iv_get hv (k := 146) (j := 0) (l := 0) (u := 1999) rfl
                                                        have h1418_ := iv_get hv (k := 4) (j := 6) (l := 0) (u := 40) rfl
                                                        have h1419_ := iv_get hv (k := 146) (j := 2) (l := 0) (u := 40) rfl
                                                        have h1420_ := iv_get hv (k := 2) (j := 1) (l := 0) (u := 200) rfl
                                                        have h1421_ := iv_get hv (k := 146) (j := 22) (l := 0) (u := 200) rfl
                                                        have h1422_ := iv_get hv (k := 105) (j := 5) (l := 0) (u := 10) rfl
                                                        have h1423_ := iv_get hv (k := 146) (j := 68) (l := 0) (u := 10) rfl
                                                        exact lw_op902 E d hd hL y3 hy0 (by omega) hnext a b hv hg0 hg1 hg2 hg3 hg4 hg5 hg6 hg7 hg8 (show a 0 0 = a 146 0 from by omega) (show a 4 6 = a 146 2 from by omega) (show a 2 1 = a 146 22 from by omega) (show a 105 5 = a 146 68 from by omega)
                                                      ·
                                                        refine jt_ite (fun c1424_ => ?_) (fun c1424_ => ?_)
                                                        ·
                                                          have h1425_ := iv_get hv (k := 0) (j := 0) (l := 0) (u := 1999) rfl
                                                          have h1426_ := iv_get hv (k := 146) (j := 0) (l := 0) (u := 1999) rfl
                                                          have h1427_ := iv_get hv (k := 4) (j := 6) (l := 0) (u := 40) rfl
                                                          have h1428_ := iv_get hv (k := 146) (j := 2) (l := 0) (u := 40) rfl
                                                          have h1429_ := iv_get hv (k := 2) (j := 1) (l := 0) (u := 200) rfl
                                                          have h1430_ := iv_get hv (k := 146) (j := 22) (l := 0) (u := 200) rfl
                                                          have h1431_ := iv_get hv (k := 105) (j := 5) (l := 0) (u := 10) rfl
                                                          have h1432_ := iv_get hv (k := 146) (j := 68) (l := 0) (u := 10) rfl
                                                          exact lw_op925 E d hd hL y3 hy0 (by omega) hnext a b hv hg0 hg1 hg2 hg3 hg4 hg5 hg6 hg7 hg8 (show a 0 0 = a 146 0 from by omega) (show a 4 6 = a 146 2 from by omega) (show a 2 1 = a 146 22 from by omega) (show a 105 5 = a 146 68 from by omega)
                                                        ·
                                                          refine jt_ite (fun c1433_ => ?_) (fun c1433_ => ?_)
                                                          ·
                                                            have h1434_ := iv_get hv (k := 0) (j := 0) (l := 0) (u := 1999) rfl
                                                            have h1435_ := iv_get hv (k := 146) (j := 0) (l := 0) (u := 1999) rfl
                                                            have h1436_ := iv_get hv (k := 4) (j := 6) (l := 0) (u := 40) rfl
                                                            have h1437_ := iv_get hv (k := 146) (j := 2) (l := 0) (u := 40) rfl
                                                            have h1438_ := iv_get hv (k := 2) (j := 1) (l := 0) (u := 200) rfl
                                                            have h1439_ := iv_get hv (k := 146) (j := 22) (l := 0) (u := 200) rfl
                                                            have h1440_ := iv_get hv (k := 105) (j := 5) (l := 0) (u := 10) rfl
                                                            have h1441_ := iv_get hv (k := 146) (j := 68) (l := 0) (u := 10) rfl
                                                            exact lw_op958 E d hd hL y3 hy0 (by omega) hnext a b hv hg0 hg1 hg2 hg3 hg4 hg5 hg6 hg7 hg8 (show a 0 0 = a 146 0 from by omega) (show a 4 6 = a 146 2 from by omega) (show a 2 1 = a 146 22 from by omega) (show a 105 5 = a 146 68 from by omega)
                                                          ·
                                                            refine jt_ite (fun c1442_ => ?_) (fun c1442_ => ?_)
                                                            ·
                                                              have h1443_ := iv_get hv (k := 0) (j := 0) (l := 0) (u := 1999) rfl
                                                              have h1444_ := iv_get hv (k := 146) (j := 0) (l := 0) (u := 1999) rfl
                                                              have h1445_ := iv_get hv (k := 4) (j := 6) (l := 0) (u := 40) rfl
                                                              have h1446_ := iv_get hv (k := 146) (j := 2) (l := 0) (u := 40) rfl
                                                              have h1447_ := iv_get hv (k := 2) (j := 1) (l := 0) (u := 200) rfl
                                                              have h1448_ := iv_get hv (k := 146) (j := 22) (l := 0) (u := 200) rfl
                                                              have h1449_ := iv_get hv (k := 105) (j := 5) (l := 0) (u := 10) rfl
                                                              have h1450_ := iv_get hv (k := 146) (j := 68) (l := 0) (u := 10) rfl
                                                              exact lw_op991 E d hd hL y3 hy0 (by omega) hnext a b hv hg0 hg1 hg2 hg3 hg4 hg5 hg6 hg7 hg8 (show a 0 0 = a 146 0 from by omega) (show a 4 6 = a 146 2 from by omega) (show a 2 1 = a 146 22 from by omega) (show a 105 5 = a 146 68 from by omega)
                                                            ·
                                                              refine jt_ite (fun c1451_ => ?_) (fun c1451_ => ?_)
                                                              ·
                                                                have h1452_ := iv_get hv (k := 0) (j := 0) (l := 0) (u := 1999) rfl
                                                                have h1453_ := iv_get hv (k := 146) (j := 0) (l := 0) (u := 1999) rfl
                                                                have h1454_ := iv_get hv (k := 4) (j := 6) (l := 0) (u := 40) rfl
                                                                have h1455_ := iv_get hv (k := 146) (j := 2) (l := 0) (u := 40) rfl
                                                                have h1456_ := iv_get hv (k := 2) (j := 1) (l := 0) (u := 200) rfl
                                                                have h1457_ := iv_get hv (k := 146) (j := 22) (l := 0) (u := 200) rfl
                                                                have h1458_ := iv_get hv (k := 105) (j := 5) (l := 0) (u := 10) rfl
                                                                have h1459_ := iv_get hv (k := 146) (j := 68) (l := 0) (u := 10) rfl
                                                                exact lw_op1014 E d hd hL y3 hy0 (by omega) hnext a b hv hg0 hg1 hg2 hg3 hg4 hg5 hg6 hg7 hg8 (show a 0 0 = a 146 0 from by omega) (show a 4 6 = a 146 2 from by omega) (show a 2 1 = a 146 22 from by omega) (show a 105 5 = a 146 68 from by omega)
                                                              ·
                                                                refine jt_ite (fun c1460_ => ?_) (fun c1460_ => ?_)
                                                                ·
                                                                  have h1461_ := iv_get hv (k := 0) (j := 0) (l := 0) (u := 1999) rfl
                                                                  have h1462_ := iv_get hv (k := 146) (j := 0) (l := 0) (u := 1999) rfl
                                                                  have h1463_ := iv_get hv (k := 4) (j := 6) (l := 0) (u := 40) rfl
                                                                  have h1464_ := iv_get hv (k := 146) (j := 2) (l := 0) (u := 40) rfl
                                                                  have h1465_ := iv_get hv (k := 2) (j := 1) (l := 0) (u := 200) rfl
                                                                  have h1466_ := iv_get hv (k := 146) (j := 22) (l := 0) (u := 200) rfl
                                                                  have h1467_ := iv_get hv (k := 105) (j := 5) (l := 0) (u := 10) rfl
                                                                  have h1468_ := iv_get hv (k := 146) (j := 68) (l := 0) (u := 10) rfl
                                                                  exact lw_op1067 E d hd hL y3 hy0 (by omega) hnext a b hv hg0 hg1 hg2 hg3 hg4 hg5 hg6 hg7 hg8 (show a 0 0 = a 146 0 from by omega) (show a 4 6 = a 146 2 from by omega) (show a 2 1 = a 146 22 from by omega) (show a 105 5 = a 146 68 from by omega)
                                                                ·
                                                                  refine jt_ite (fun c1469_ => ?_) (fun c1469_ => ?_)
                                                                  ·
                                                                    have h1470_ := iv_get hv (k := 0) (j := 0) (l := 0) (u := 1999) rfl
                                                                    have h1471_ := iv_get hv (k := 146) (j := 0) (l := 0) (u := 1999) rfl
                                                                    have h1472_ := iv_get hv (k := 4) (j := 6) (l := 0) (u := 40) rfl
                                                                    have h1473_ := iv_get hv (k := 146) (j := 2) (l := 0) (u := 40) rfl
                                                                    have h1474_ := iv_get hv (k := 2) (j := 1) (l := 0) (u := 200) rfl
                                                                    have h1475_ := iv_get hv (k := 146) (j := 22) (l := 0) (u := 200) rfl
                                                                    have h1476_ := iv_get hv (k := 105) (j := 5) (l := 0) (u := 10) rfl
                                                                    have h1477_ := iv_get hv (k := 146) (j := 68) (l := 0) (u := 10) rfl
                                                                    exact lw_op1110 E d hd hL y3 hy0 (by omega) hnext a b hv hg0 hg1 hg2 hg3 hg4 hg5 hg6 hg7 hg8 (show a 0 0 = a 146 0 from by omega) (show a 4 6 = a 146 2 from by omega) (show a 2 1 = a 146 22 from by omega) (show a 105 5 = a 146 68 from by omega)
                                                                  ·
                                                                    refine jt_ite (fun c1478_ => ?_) (fun c1478_ => ?_)
                                                                    ·
                                                                      have h1479_ := iv_get hv (k := 0) (j := 0) (l := 0) (u := 1999) rfl
                                                                      have h1480_ := iv_get hv (k := 146) (j := 0) (l := 0) (u := 1999) rfl
                                                                      have h1481_ := iv_get hv (k := 4) (j := 6) (l := 0) (u := 40) rfl
                                                                      have h1482_ := iv_get hv (k := 146) (j := 2) (l := 0) (u := 40) rfl
                                                                      have h1483_ := iv_get hv (k := 2) (j := 1) (l := 0) (u := 200) rfl
                                                                      have h1484_ := iv_get hv (k := 146) (j := 22) (l := 0) (u := 200) rfl
                                                                      have h1485_ := iv_get hv (k := 105) (j := 5) (l := 0) (u := 10) rfl
                                                                      have h1486_ := iv_get hv (k := 146) (j := 68) (l := 0) (u := 10) rfl
                                                                      exact lw_op1143 E d hd hL y3 hy0 (by omega) hnext a b hv hg0 hg1 hg2 hg3 hg4 hg5 hg6 hg7 hg8 (show a 0 0 = a 146 0 from by omega) (show a 4 6 = a 146 2 from by omega) (show a 2 1 = a 146 22 from by omega) (show a 105 5 = a 146 68 from by omega)
                                                                    ·
                                                                      refine jt_ite (fun c1487_ => ?_) (fun c1487_ => ?_)
                                                                      ·
                                                                        have h1488_ := iv_get hv (k := 0) (j := 0) (l := 0) (u := 1999) rfl
                                                                        have h1489_ := iv_get hv (k := 146) (j := 0) (l := 0) (u := 1999) rfl
                                                                        have h1490_ := iv_get hv (k := 4) (j := 6) (l := 0) (u := 40) rfl
                                                                        have h1491_ := iv_get hv (k := 146) (j := 2) (l := 0) (u := 40) rfl
                                                                        have h1492_ := iv_get hv (k := 2) (j := 1) (l := 0) (u := 200) rfl
                                                                        have h1493_ := iv_get hv (k := 146) (j := 22) (l := 0) (u := 200) rfl
                                                                        have h1494_ := iv_get hv (k := 105) (j := 5) (l := 0) (u := 10) rfl
                                                                        have h1495_ := iv_get hv (k := 146) (j := 68) (l := 0) (u := 10) rfl
                                                                        exact lw_op1166 E d hd hL y3 hy0 (by omega) hnext a b hv hg0 hg1 hg2 hg3 hg4 hg5 hg6 hg7 hg8 (show a 0 0 = a 146 0 from by omega) (show a 4 6 = a 146 2 from by omega) (show a 2 1 = a 146 22 from by omega) (show a 105 5 = a 146 68 from by omega)
                                                                      ·
                                                                        exact absurd (by omega : False) id
