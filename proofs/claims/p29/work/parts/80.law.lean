theorem jt_bif {c : Bool} {X Y : Option jxR} {Q : List jxV → (Nat → Nat → Int) → (Nat → Nat → Int) → Prop} (hc : c = true) (h : jt X Q) : jt (bif c then X else Y) Q := by
  rw [hc]; exact h
theorem lw_op180 (E : jxE) (d : Nat) (hd : Nat.ble 60 (d + 1) = true) (hL : E.1 ≤ 3072) (y3 : Int) (hy0 : 0 ≤ y3) (hy1 : y3 + 6 ≤ E.1) (hnext : ∀ (a b : Nat → Nat → Int) (hv : iv a) (hg0 : WFW a) (hg1 : SV a) (hg2 : OC a) (hg3 : FO a) (hg4 : FW a) (hg5 : TAPE a) (hr0 : a 4 6 = a 146 2) (hr1 : a 2 1 = a 146 22) (hr2 : a 105 5 = a 146 68), jt (jxX E d 305 1189 [some (.inr (.inr (.inl 3000))), some (.inr (.inr (.inl 0))), some (.inr (.inr (.inl 146))), some (.inl y3)] [] (jxSH, a, b)) (fun v _ _ => v = [.inl 1])) (a b : Nat → Nat → Int) (hv : iv a) (hg0 : WFW a) (hg1 : SV a) (hg2 : OC a) (hg3 : FO a) (hg4 : FW a) (hg5 : TAPE a) (hr0 : a 4 6 = a 146 2) (hr1 : a 2 1 = a 146 22) (hr2 : a 105 5 = a 146 68) : jt (jxX E d 305 180 [some (.inr (.inr (.inl 3000))), some (.inr (.inr (.inl 0))), some (.inr (.inr (.inl 146))), some (.inl y3)] [] (jxSH, a, b)) (fun v _ _ => v = [.inl 1]) := by
  refine jt_eq (bq_law_180 E d y3 a b) ?_
  have h1_ := iv_get hv (k := 4) (j := 6) (l := 0) (u := 40) rfl
  have h2_ := iv_get hv (k := 146) (j := 2) (l := 0) (u := 40) rfl
  have h3_ := iv_get hv (k := 2) (j := 1) (l := 0) (u := 200) rfl
  have h4_ := iv_get hv (k := 146) (j := 22) (l := 0) (u := 200) rfl
  have h5_ := iv_get hv (k := 105) (j := 5) (l := 0) (u := 10) rfl
  have h6_ := iv_get hv (k := 146) (j := 68) (l := 0) (u := 10) rfl
  refine jt_bif (Nat.ble_eq_true_of_le (by omega)) ?_
  have h7_ : jxw (y3 + 1) = y3 + 1 := jxw_id (by omega) (by omega)
  refine jt_grd (by omega) ?_
  refine jt_bI (sp_X11_clock E d (jd_le hd rfl) (E.2 ((jxw (y3 + 1)).toNat)) a b hv) (fun r8_ a8_ b8_ h8_ => ?_)
  obtain ⟨hv8_, hf8_, rfl, hq8_0, hq8_1⟩ := h8_
  have h9_ := iv_get hv (k := 0) (j := 0) (l := 0) (u := 1999) rfl
  have h10_ := iv_get hv8_ (k := 0) (j := 0) (l := 0) (u := 1999) rfl
  refine jt_eq (bq_law_190 E d y3 a8_ b) ?_
  refine jt_bif (Nat.ble_eq_true_of_le (by omega)) ?_
  refine jt_grd (by omega) ?_
  refine jt_bI (sp_X12_clock E d (jd_le hd rfl) (E.2 ((jxw (y3 + 1)).toNat)) a8_ b hv8_) (fun r11_ a11_ b11_ h11_ => ?_)
  obtain ⟨hv11_, hf11_, rfl, hq11_0, hq11_1⟩ := h11_
  have h12_ := iv_get hv8_ (k := 146) (j := 0) (l := 0) (u := 1999) rfl
  have h13_ : a8_ 146 0 = a 146 0 := hf8_ 146 0 rfl
  have h14_ := iv_get hv (k := 146) (j := 0) (l := 0) (u := 1999) rfl
  have h15_ := iv_get hv11_ (k := 146) (j := 0) (l := 0) (u := 1999) rfl
  have h16_ := iv_get hv11_ (k := 4) (j := 6) (l := 0) (u := 40) rfl
  have h17_ : a11_ 4 6 = a8_ 4 6 := hf11_ 4 6 rfl
  have h18_ := iv_get hv8_ (k := 4) (j := 6) (l := 0) (u := 40) rfl
  have h19_ : a8_ 4 6 = a 4 6 := hf8_ 4 6 rfl
  have h20_ := iv_get hv11_ (k := 146) (j := 2) (l := 0) (u := 40) rfl
  have h21_ : a11_ 146 2 = a8_ 146 2 := hf11_ 146 2 rfl
  have h22_ := iv_get hv8_ (k := 146) (j := 2) (l := 0) (u := 40) rfl
  have h23_ : a8_ 146 2 = a 146 2 := hf8_ 146 2 rfl
  have h24_ := iv_get hv11_ (k := 2) (j := 1) (l := 0) (u := 200) rfl
  have h25_ : a11_ 2 1 = a8_ 2 1 := hf11_ 2 1 rfl
  have h26_ := iv_get hv8_ (k := 2) (j := 1) (l := 0) (u := 200) rfl
  have h27_ : a8_ 2 1 = a 2 1 := hf8_ 2 1 rfl
  have h28_ := iv_get hv11_ (k := 146) (j := 22) (l := 0) (u := 200) rfl
  have h29_ : a11_ 146 22 = a8_ 146 22 := hf11_ 146 22 rfl
  have h30_ := iv_get hv8_ (k := 146) (j := 22) (l := 0) (u := 200) rfl
  have h31_ : a8_ 146 22 = a 146 22 := hf8_ 146 22 rfl
  have h32_ := iv_get hv11_ (k := 105) (j := 5) (l := 0) (u := 10) rfl
  have h33_ : a11_ 105 5 = a8_ 105 5 := hf11_ 105 5 rfl
  have h34_ := iv_get hv8_ (k := 105) (j := 5) (l := 0) (u := 10) rfl
  have h35_ : a8_ 105 5 = a 105 5 := hf8_ 105 5 rfl
  have h36_ := iv_get hv11_ (k := 146) (j := 68) (l := 0) (u := 10) rfl
  have h37_ : a11_ 146 68 = a8_ 146 68 := hf11_ 146 68 rfl
  have h38_ := iv_get hv8_ (k := 146) (j := 68) (l := 0) (u := 10) rfl
  have h39_ : a8_ 146 68 = a 146 68 := hf8_ 146 68 rfl
  exact hnext a11_ b hv11_ (WFW_fr (WFW_fr hg0 hf8_ (fun _ => rfl) (fun _ => rfl)) hf11_ (fun _ => rfl) (fun _ => rfl)) (SV_fr (SV_fr hg1 hf8_ (fun _ => rfl) (fun _ => rfl)) hf11_ (fun _ => rfl) (fun _ => rfl)) (OC_fr (OC_fr hg2 hf8_ rfl rfl (fun _ => rfl) (fun _ => rfl) (fun _ => rfl) (fun _ => rfl) (fun _ => rfl)) hf11_ rfl rfl (fun _ => rfl) (fun _ => rfl) (fun _ => rfl) (fun _ => rfl) (fun _ => rfl)) (FO_fr (FO_fr hg3 hf8_ rfl rfl (fun _ => rfl)) hf11_ rfl rfl (fun _ => rfl)) (FW_fr (FW_fr hg4 hf8_ rfl (fun _ => rfl)) hf11_ rfl (fun _ => rfl)) (TAPE_fr (TAPE_fr hg5 hf8_ (fun _ => rfl) (fun _ => rfl)) hf11_ (fun _ => rfl) (fun _ => rfl)) (show a11_ 4 6 = a11_ 146 2 from by omega) (show a11_ 2 1 = a11_ 146 22 from by omega) (show a11_ 105 5 = a11_ 146 68 from by omega)
theorem lw_op203 (E : jxE) (d : Nat) (hd : Nat.ble 60 (d + 1) = true) (hL : E.1 ≤ 3072) (y3 : Int) (hy0 : 0 ≤ y3) (hy1 : y3 + 6 ≤ E.1) (hnext : ∀ (a b : Nat → Nat → Int) (hv : iv a) (hg0 : WFW a) (hg1 : SV a) (hg2 : OC a) (hg3 : FO a) (hg4 : FW a) (hg5 : TAPE a) (hr0 : a 4 6 = a 146 2) (hr1 : a 2 1 = a 146 22) (hr2 : a 105 5 = a 146 68), jt (jxX E d 305 1189 [some (.inr (.inr (.inl 3000))), some (.inr (.inr (.inl 0))), some (.inr (.inr (.inl 146))), some (.inl y3)] [] (jxSH, a, b)) (fun v _ _ => v = [.inl 1])) (a b : Nat → Nat → Int) (hv : iv a) (hg0 : WFW a) (hg1 : SV a) (hg2 : OC a) (hg3 : FO a) (hg4 : FW a) (hg5 : TAPE a) (hr0 : a 4 6 = a 146 2) (hr1 : a 2 1 = a 146 22) (hr2 : a 105 5 = a 146 68) : jt (jxX E d 305 203 [some (.inr (.inr (.inl 3000))), some (.inr (.inr (.inl 0))), some (.inr (.inr (.inl 146))), some (.inl y3)] [] (jxSH, a, b)) (fun v _ _ => v = [.inl 1]) := by
  refine jt_eq (bq_law_203 E d y3 a b) ?_
  have h40_ := iv_get hv (k := 4) (j := 6) (l := 0) (u := 40) rfl
  have h41_ := iv_get hv (k := 146) (j := 2) (l := 0) (u := 40) rfl
  have h42_ := iv_get hv (k := 2) (j := 1) (l := 0) (u := 200) rfl
  have h43_ := iv_get hv (k := 146) (j := 22) (l := 0) (u := 200) rfl
  have h44_ := iv_get hv (k := 105) (j := 5) (l := 0) (u := 10) rfl
  have h45_ := iv_get hv (k := 146) (j := 68) (l := 0) (u := 10) rfl
  refine jt_bif (Nat.ble_eq_true_of_le (by omega)) ?_
  have h46_ : jxw (y3 + 1) = y3 + 1 := jxw_id (by omega) (by omega)
  refine jt_grd (by omega) ?_
  refine jt_bif (Nat.ble_eq_true_of_le (by omega)) ?_
  have h47_ : jxw (y3 + 2) = y3 + 2 := jxw_id (by omega) (by omega)
  refine jt_grd (by omega) ?_
  refine jt_bif (Nat.ble_eq_true_of_le (by omega)) ?_
  have h48_ : jxw (y3 + 3) = y3 + 3 := jxw_id (by omega) (by omega)
  refine jt_grd (by omega) ?_
  refine jt_bI (sp_X11_far E d (jd_le hd rfl) (E.2 ((jxw (y3 + 1)).toNat)) (E.2 ((jxw (y3 + 2)).toNat)) (E.2 ((jxw (y3 + 3)).toNat)) a b hv) (fun r49_ a49_ b49_ h49_ => ?_)
  obtain ⟨hv49_, hf49_, rfl, hq49_0⟩ := h49_
  refine jt_eq (bq_law_223 E d y3 a49_ b) ?_
  refine jt_bif (Nat.ble_eq_true_of_le (by omega)) ?_
  refine jt_grd (by omega) ?_
  refine jt_bif (Nat.ble_eq_true_of_le (by omega)) ?_
  refine jt_grd (by omega) ?_
  refine jt_bif (Nat.ble_eq_true_of_le (by omega)) ?_
  refine jt_grd (by omega) ?_
  refine jt_bI (sp_X12_far E d (jd_le hd rfl) (E.2 ((jxw (y3 + 1)).toNat)) (E.2 ((jxw (y3 + 2)).toNat)) (E.2 ((jxw (y3 + 3)).toNat)) a49_ b hv49_) (fun r50_ a50_ b50_ h50_ => ?_)
  obtain ⟨hv50_, hf50_, rfl, hq50_0⟩ := h50_
  refine jt_eq (bq_law_243 E d y3 a50_ b) ?_
  have h51_ := iv_get hv50_ (k := 4) (j := 6) (l := 0) (u := 40) rfl
  have h52_ : a50_ 4 6 = a49_ 4 6 := hf50_ 4 6 rfl
  have h53_ := iv_get hv49_ (k := 4) (j := 6) (l := 0) (u := 40) rfl
  have h54_ : a49_ 4 6 = a 4 6 := hf49_ 4 6 rfl
  have h55_ := iv_get hv50_ (k := 146) (j := 2) (l := 0) (u := 40) rfl
  have h56_ : a50_ 146 2 = a49_ 146 2 := hf50_ 146 2 rfl
  have h57_ := iv_get hv49_ (k := 146) (j := 2) (l := 0) (u := 40) rfl
  have h58_ : a49_ 146 2 = a 146 2 := hf49_ 146 2 rfl
  have h59_ := iv_get hv50_ (k := 2) (j := 1) (l := 0) (u := 200) rfl
  have h60_ : a50_ 2 1 = a49_ 2 1 := hf50_ 2 1 rfl
  have h61_ := iv_get hv49_ (k := 2) (j := 1) (l := 0) (u := 200) rfl
  have h62_ : a49_ 2 1 = a 2 1 := hf49_ 2 1 rfl
  have h63_ := iv_get hv50_ (k := 146) (j := 22) (l := 0) (u := 200) rfl
  have h64_ : a50_ 146 22 = a49_ 146 22 := hf50_ 146 22 rfl
  have h65_ := iv_get hv49_ (k := 146) (j := 22) (l := 0) (u := 200) rfl
  have h66_ : a49_ 146 22 = a 146 22 := hf49_ 146 22 rfl
  have h67_ := iv_get hv50_ (k := 105) (j := 5) (l := 0) (u := 10) rfl
  have h68_ : a50_ 105 5 = a49_ 105 5 := hf50_ 105 5 rfl
  have h69_ := iv_get hv49_ (k := 105) (j := 5) (l := 0) (u := 10) rfl
  have h70_ : a49_ 105 5 = a 105 5 := hf49_ 105 5 rfl
  have h71_ := iv_get hv50_ (k := 146) (j := 68) (l := 0) (u := 10) rfl
  have h72_ : a50_ 146 68 = a49_ 146 68 := hf50_ 146 68 rfl
  have h73_ := iv_get hv49_ (k := 146) (j := 68) (l := 0) (u := 10) rfl
  have h74_ : a49_ 146 68 = a 146 68 := hf49_ 146 68 rfl
  exact hnext a50_ b hv50_ (WFW_fr (WFW_fr hg0 hf49_ (fun _ => rfl) (fun _ => rfl)) hf50_ (fun _ => rfl) (fun _ => rfl)) (SV_fr (SV_fr hg1 hf49_ (fun _ => rfl) (fun _ => rfl)) hf50_ (fun _ => rfl) (fun _ => rfl)) (OC_fr (OC_fr hg2 hf49_ rfl rfl (fun _ => rfl) (fun _ => rfl) (fun _ => rfl) (fun _ => rfl) (fun _ => rfl)) hf50_ rfl rfl (fun _ => rfl) (fun _ => rfl) (fun _ => rfl) (fun _ => rfl) (fun _ => rfl)) (FO_fr (FO_fr hg3 hf49_ rfl rfl (fun _ => rfl)) hf50_ rfl rfl (fun _ => rfl)) (FW_fr (FW_fr hg4 hf49_ rfl (fun _ => rfl)) hf50_ rfl (fun _ => rfl)) (TAPE_fr (TAPE_fr hg5 hf49_ (fun _ => rfl) (fun _ => rfl)) hf50_ (fun _ => rfl) (fun _ => rfl)) (show a50_ 4 6 = a50_ 146 2 from by omega) (show a50_ 2 1 = a50_ 146 22 from by omega) (show a50_ 105 5 = a50_ 146 68 from by omega)
theorem lw_op246 (E : jxE) (d : Nat) (hd : Nat.ble 60 (d + 1) = true) (hL : E.1 ≤ 3072) (y3 : Int) (hy0 : 0 ≤ y3) (hy1 : y3 + 6 ≤ E.1) (hnext : ∀ (a b : Nat → Nat → Int) (hv : iv a) (hg0 : WFW a) (hg1 : SV a) (hg2 : OC a) (hg3 : FO a) (hg4 : FW a) (hg5 : TAPE a) (hr0 : a 4 6 = a 146 2) (hr1 : a 2 1 = a 146 22) (hr2 : a 105 5 = a 146 68), jt (jxX E d 305 1189 [some (.inr (.inr (.inl 3000))), some (.inr (.inr (.inl 0))), some (.inr (.inr (.inl 146))), some (.inl y3)] [] (jxSH, a, b)) (fun v _ _ => v = [.inl 1])) (a b : Nat → Nat → Int) (hv : iv a) (hg0 : WFW a) (hg1 : SV a) (hg2 : OC a) (hg3 : FO a) (hg4 : FW a) (hg5 : TAPE a) (hr0 : a 4 6 = a 146 2) (hr1 : a 2 1 = a 146 22) (hr2 : a 105 5 = a 146 68) : jt (jxX E d 305 246 [some (.inr (.inr (.inl 3000))), some (.inr (.inr (.inl 0))), some (.inr (.inr (.inl 146))), some (.inl y3)] [] (jxSH, a, b)) (fun v _ _ => v = [.inl 1]) := by
  refine jt_eq (bq_law_246 E d y3 a b) ?_
  have h75_ := iv_get hv (k := 4) (j := 6) (l := 0) (u := 40) rfl
  have h76_ := iv_get hv (k := 146) (j := 2) (l := 0) (u := 40) rfl
  have h77_ := iv_get hv (k := 2) (j := 1) (l := 0) (u := 200) rfl
  have h78_ := iv_get hv (k := 146) (j := 22) (l := 0) (u := 200) rfl
  have h79_ := iv_get hv (k := 105) (j := 5) (l := 0) (u := 10) rfl
  have h80_ := iv_get hv (k := 146) (j := 68) (l := 0) (u := 10) rfl
  refine jt_bif (Nat.ble_eq_true_of_le (by omega)) ?_
  have h81_ : jxw (y3 + 1) = y3 + 1 := jxw_id (by omega) (by omega)
  refine jt_grd (by omega) ?_
  refine jt_bif (Nat.ble_eq_true_of_le (by omega)) ?_
  have h82_ : jxw (y3 + 2) = y3 + 2 := jxw_id (by omega) (by omega)
  refine jt_grd (by omega) ?_
  refine jt_bif (Nat.ble_eq_true_of_le (by omega)) ?_
  have h83_ : jxw (y3 + 3) = y3 + 3 := jxw_id (by omega) (by omega)
  refine jt_grd (by omega) ?_
  refine jt_bI (sp_X11_member E d (jd_le hd rfl) (E.2 ((jxw (y3 + 1)).toNat)) (E.2 ((jxw (y3 + 2)).toNat)) (E.2 ((jxw (y3 + 3)).toNat)) a b hv) (fun r84_ a84_ b84_ h84_ => ?_)
  obtain ⟨hv84_, hf84_, rfl, hq84_0, hq84_1, hq84_2⟩ := h84_
  have h85_ := iv_get hv84_ (k := 4) (j := 6) (l := 0) (u := 40) rfl
  refine jt_eq (bq_law_266 E d y3 a84_ b) ?_
  refine jt_bif (Nat.ble_eq_true_of_le (by omega)) ?_
  refine jt_grd (by omega) ?_
  refine jt_bif (Nat.ble_eq_true_of_le (by omega)) ?_
  refine jt_grd (by omega) ?_
  refine jt_bif (Nat.ble_eq_true_of_le (by omega)) ?_
  refine jt_grd (by omega) ?_
  refine jt_bI (sp_X12_member E d (jd_le hd rfl) (E.2 ((jxw (y3 + 1)).toNat)) (E.2 ((jxw (y3 + 2)).toNat)) (E.2 ((jxw (y3 + 3)).toNat)) a84_ b hv84_) (fun r86_ a86_ b86_ h86_ => ?_)
  obtain ⟨hv86_, hf86_, rfl, hq86_0, hq86_1, hq86_2⟩ := h86_
  have h87_ := iv_get hv84_ (k := 146) (j := 2) (l := 0) (u := 40) rfl
  have h88_ : a84_ 146 2 = a 146 2 := hf84_ 146 2 rfl
  have h89_ := iv_get hv86_ (k := 146) (j := 2) (l := 0) (u := 40) rfl
  refine jt_eq (bq_law_286 E d y3 a86_ b) ?_
  have h90_ := iv_get hv86_ (k := 4) (j := 6) (l := 0) (u := 40) rfl
  have h91_ : a86_ 4 6 = a84_ 4 6 := hf86_ 4 6 rfl
  have h92_ := iv_get hv86_ (k := 2) (j := 1) (l := 0) (u := 200) rfl
  have h93_ : a86_ 2 1 = a84_ 2 1 := hf86_ 2 1 rfl
  have h94_ := iv_get hv84_ (k := 2) (j := 1) (l := 0) (u := 200) rfl
  have h95_ : a84_ 2 1 = a 2 1 := hf84_ 2 1 rfl
  have h96_ := iv_get hv86_ (k := 146) (j := 22) (l := 0) (u := 200) rfl
  have h97_ : a86_ 146 22 = a84_ 146 22 := hf86_ 146 22 rfl
  have h98_ := iv_get hv84_ (k := 146) (j := 22) (l := 0) (u := 200) rfl
  have h99_ : a84_ 146 22 = a 146 22 := hf84_ 146 22 rfl
  have h100_ := iv_get hv86_ (k := 105) (j := 5) (l := 0) (u := 10) rfl
  have h101_ : a86_ 105 5 = a84_ 105 5 := hf86_ 105 5 rfl
  have h102_ := iv_get hv84_ (k := 105) (j := 5) (l := 0) (u := 10) rfl
  have h103_ : a84_ 105 5 = a 105 5 := hf84_ 105 5 rfl
  have h104_ := iv_get hv86_ (k := 146) (j := 68) (l := 0) (u := 10) rfl
  have h105_ : a86_ 146 68 = a84_ 146 68 := hf86_ 146 68 rfl
  have h106_ := iv_get hv84_ (k := 146) (j := 68) (l := 0) (u := 10) rfl
  have h107_ : a84_ 146 68 = a 146 68 := hf84_ 146 68 rfl
  exact hnext a86_ b hv86_ (WFW_fr (WFW_fr hg0 hf84_ (fun _ => rfl) (fun _ => rfl)) hf86_ (fun _ => rfl) (fun _ => rfl)) (SV_fr (SV_fr hg1 hf84_ (fun _ => rfl) (fun _ => rfl)) hf86_ (fun _ => rfl) (fun _ => rfl)) (OC_fr (OC_fr hg2 hf84_ rfl rfl (fun _ => rfl) (fun _ => rfl) (fun _ => rfl) (fun _ => rfl) (fun _ => rfl)) hf86_ rfl rfl (fun _ => rfl) (fun _ => rfl) (fun _ => rfl) (fun _ => rfl) (fun _ => rfl)) (FO_fr (FO_fr hg3 hf84_ rfl rfl (fun _ => rfl)) hf86_ rfl rfl (fun _ => rfl)) (FW_fr (FW_fr hg4 hf84_ rfl (fun _ => rfl)) hf86_ rfl (fun _ => rfl)) (TAPE_fr (TAPE_fr hg5 hf84_ (fun _ => rfl) (fun _ => rfl)) hf86_ (fun _ => rfl) (fun _ => rfl)) (show a86_ 4 6 = a86_ 146 2 from by omega) (show a86_ 2 1 = a86_ 146 22 from by omega) (show a86_ 105 5 = a86_ 146 68 from by omega)
theorem lw_op289 (E : jxE) (d : Nat) (hd : Nat.ble 60 (d + 1) = true) (hL : E.1 ≤ 3072) (y3 : Int) (hy0 : 0 ≤ y3) (hy1 : y3 + 6 ≤ E.1) (hnext : ∀ (a b : Nat → Nat → Int) (hv : iv a) (hg0 : WFW a) (hg1 : SV a) (hg2 : OC a) (hg3 : FO a) (hg4 : FW a) (hg5 : TAPE a) (hr0 : a 4 6 = a 146 2) (hr1 : a 2 1 = a 146 22) (hr2 : a 105 5 = a 146 68), jt (jxX E d 305 1189 [some (.inr (.inr (.inl 3000))), some (.inr (.inr (.inl 0))), some (.inr (.inr (.inl 146))), some (.inl y3)] [] (jxSH, a, b)) (fun v _ _ => v = [.inl 1])) (a b : Nat → Nat → Int) (hv : iv a) (hg0 : WFW a) (hg1 : SV a) (hg2 : OC a) (hg3 : FO a) (hg4 : FW a) (hg5 : TAPE a) (hr0 : a 4 6 = a 146 2) (hr1 : a 2 1 = a 146 22) (hr2 : a 105 5 = a 146 68) : jt (jxX E d 305 289 [some (.inr (.inr (.inl 3000))), some (.inr (.inr (.inl 0))), some (.inr (.inr (.inl 146))), some (.inl y3)] [] (jxSH, a, b)) (fun v _ _ => v = [.inl 1]) := by
  refine jt_eq (bq_law_289 E d y3 a b) ?_
  have h108_ := iv_get hv (k := 4) (j := 6) (l := 0) (u := 40) rfl
  have h109_ := iv_get hv (k := 146) (j := 2) (l := 0) (u := 40) rfl
  have h110_ := iv_get hv (k := 2) (j := 1) (l := 0) (u := 200) rfl
  have h111_ := iv_get hv (k := 146) (j := 22) (l := 0) (u := 200) rfl
  have h112_ := iv_get hv (k := 105) (j := 5) (l := 0) (u := 10) rfl
  have h113_ := iv_get hv (k := 146) (j := 68) (l := 0) (u := 10) rfl
  refine jt_bif (Nat.ble_eq_true_of_le (by omega)) ?_
  have h114_ : jxw (y3 + 1) = y3 + 1 := jxw_id (by omega) (by omega)
  refine jt_grd (by omega) ?_
  refine jt_bI (sp_X11_leave E d (jd_le hd rfl) (E.2 ((jxw (y3 + 1)).toNat)) a b hv) (fun r115_ a115_ b115_ h115_ => ?_)
  obtain ⟨hv115_, hf115_, rfl, hq115_0, hq115_1, hq115_2⟩ := h115_
  refine jt_eq (bq_law_299 E d y3 a115_ b) ?_
  refine jt_bif (Nat.ble_eq_true_of_le (by omega)) ?_
  refine jt_grd (by omega) ?_
  refine jt_bI (sp_X12_leave E d (jd_le hd rfl) (E.2 ((jxw (y3 + 1)).toNat)) a115_ b hv115_ (OC_fr hg2 hf115_ rfl rfl (fun _ => rfl) (fun _ => rfl) (fun _ => rfl) (fun _ => rfl) (fun _ => rfl))) (fun r116_ a116_ b116_ h116_ => ?_)
  obtain ⟨hv116_, hf116_, rfl, hq116_0, hq116_1, hq116_2, hq116_3⟩ := h116_
  have h117_ := iv_get hv115_ (k := 146) (j := 2) (l := 0) (u := 40) rfl
  have h118_ : a115_ 146 2 = a 146 2 := hf115_ 146 2 rfl
  have h119_ := iv_get hv116_ (k := 4) (j := 6) (l := 0) (u := 40) rfl
  have h120_ : a116_ 4 6 = a115_ 4 6 := hf116_ 4 6 rfl
  have h121_ := iv_get hv115_ (k := 4) (j := 6) (l := 0) (u := 40) rfl
  have h122_ : a115_ 4 6 = a 4 6 := hf115_ 4 6 rfl
  have h123_ := iv_get hv116_ (k := 146) (j := 2) (l := 0) (u := 40) rfl
  have h124_ : a116_ 146 2 = a115_ 146 2 := hf116_ 146 2 rfl
  have h125_ := iv_get hv116_ (k := 2) (j := 1) (l := 0) (u := 200) rfl
  have h126_ : a116_ 2 1 = a115_ 2 1 := hf116_ 2 1 rfl
  have h127_ := iv_get hv115_ (k := 2) (j := 1) (l := 0) (u := 200) rfl
  have h128_ : a115_ 2 1 = a 2 1 := hf115_ 2 1 rfl
  have h129_ := iv_get hv116_ (k := 146) (j := 22) (l := 0) (u := 200) rfl
  have h130_ : a116_ 146 22 = a115_ 146 22 := hf116_ 146 22 rfl
  have h131_ := iv_get hv115_ (k := 146) (j := 22) (l := 0) (u := 200) rfl
  have h132_ : a115_ 146 22 = a 146 22 := hf115_ 146 22 rfl
  have h133_ := iv_get hv116_ (k := 105) (j := 5) (l := 0) (u := 10) rfl
  have h134_ : a116_ 105 5 = a115_ 105 5 := hf116_ 105 5 rfl
  have h135_ := iv_get hv115_ (k := 105) (j := 5) (l := 0) (u := 10) rfl
  have h136_ : a115_ 105 5 = a 105 5 := hf115_ 105 5 rfl
  have h137_ := iv_get hv116_ (k := 146) (j := 68) (l := 0) (u := 10) rfl
  have h138_ : a116_ 146 68 = a115_ 146 68 := hf116_ 146 68 rfl
  have h139_ := iv_get hv115_ (k := 146) (j := 68) (l := 0) (u := 10) rfl
  have h140_ : a115_ 146 68 = a 146 68 := hf115_ 146 68 rfl
  exact hnext a116_ b hv116_ (WFW_fr (WFW_fr hg0 hf115_ (fun _ => rfl) (fun _ => rfl)) hf116_ (fun _ => rfl) (fun _ => rfl)) (SV_fr (SV_fr hg1 hf115_ (fun _ => rfl) (fun _ => rfl)) hf116_ (fun _ => rfl) (fun _ => rfl)) hq116_0 (FO_fr (FO_fr hg3 hf115_ rfl rfl (fun _ => rfl)) hf116_ rfl rfl (fun _ => rfl)) (FW_fr (FW_fr hg4 hf115_ rfl (fun _ => rfl)) hf116_ rfl (fun _ => rfl)) (TAPE_fr (TAPE_fr hg5 hf115_ (fun _ => rfl) (fun _ => rfl)) hf116_ (fun _ => rfl) (fun _ => rfl)) (show a116_ 4 6 = a116_ 146 2 from by omega) (show a116_ 2 1 = a116_ 146 22 from by omega) (show a116_ 105 5 = a116_ 146 68 from by omega)
theorem lw_op312 (E : jxE) (d : Nat) (hd : Nat.ble 60 (d + 1) = true) (hL : E.1 ≤ 3072) (y3 : Int) (hy0 : 0 ≤ y3) (hy1 : y3 + 6 ≤ E.1) (hnext : ∀ (a b : Nat → Nat → Int) (hv : iv a) (hg0 : WFW a) (hg1 : SV a) (hg2 : OC a) (hg3 : FO a) (hg4 : FW a) (hg5 : TAPE a) (hr0 : a 4 6 = a 146 2) (hr1 : a 2 1 = a 146 22) (hr2 : a 105 5 = a 146 68), jt (jxX E d 305 1189 [some (.inr (.inr (.inl 3000))), some (.inr (.inr (.inl 0))), some (.inr (.inr (.inl 146))), some (.inl y3)] [] (jxSH, a, b)) (fun v _ _ => v = [.inl 1])) (a b : Nat → Nat → Int) (hv : iv a) (hg0 : WFW a) (hg1 : SV a) (hg2 : OC a) (hg3 : FO a) (hg4 : FW a) (hg5 : TAPE a) (hr0 : a 4 6 = a 146 2) (hr1 : a 2 1 = a 146 22) (hr2 : a 105 5 = a 146 68) : jt (jxX E d 305 312 [some (.inr (.inr (.inl 3000))), some (.inr (.inr (.inl 0))), some (.inr (.inr (.inl 146))), some (.inl y3)] [] (jxSH, a, b)) (fun v _ _ => v = [.inl 1]) := by
  refine jt_eq (bq_law_312 E d y3 a b) ?_
  have h141_ := iv_get hv (k := 4) (j := 6) (l := 0) (u := 40) rfl
  have h142_ := iv_get hv (k := 146) (j := 2) (l := 0) (u := 40) rfl
  have h143_ := iv_get hv (k := 2) (j := 1) (l := 0) (u := 200) rfl
  have h144_ := iv_get hv (k := 146) (j := 22) (l := 0) (u := 200) rfl
  have h145_ := iv_get hv (k := 105) (j := 5) (l := 0) (u := 10) rfl
  have h146_ := iv_get hv (k := 146) (j := 68) (l := 0) (u := 10) rfl
  refine jt_bif (Nat.ble_eq_true_of_le (by omega)) ?_
  have h147_ : jxw (y3 + 1) = y3 + 1 := jxw_id (by omega) (by omega)
  refine jt_grd (by omega) ?_
  refine jt_bif (Nat.ble_eq_true_of_le (by omega)) ?_
  have h148_ : jxw (y3 + 2) = y3 + 2 := jxw_id (by omega) (by omega)
  refine jt_grd (by omega) ?_
  refine jt_bif (Nat.ble_eq_true_of_le (by omega)) ?_
  have h149_ : jxw (y3 + 3) = y3 + 3 := jxw_id (by omega) (by omega)
  refine jt_grd (by omega) ?_
  refine jt_bif (Nat.ble_eq_true_of_le (by omega)) ?_
  have h150_ : jxw (y3 + 4) = y3 + 4 := jxw_id (by omega) (by omega)
  refine jt_grd (by omega) ?_
  refine jt_bif (Nat.ble_eq_true_of_le (by omega)) ?_
  have h151_ : jxw (y3 + 5) = y3 + 5 := jxw_id (by omega) (by omega)
  refine jt_grd (by omega) ?_
  refine jt_bI (sp_X11_feed E d (jd_le hd rfl) (E.2 ((jxw (y3 + 1)).toNat)) (E.2 ((jxw (y3 + 2)).toNat)) (E.2 ((jxw (y3 + 3)).toNat)) (E.2 ((jxw (y3 + 4)).toNat)) (E.2 ((jxw (y3 + 5)).toNat)) a b hv) (fun r152_ a152_ b152_ h152_ => ?_)
  obtain ⟨hv152_, hf152_, rfl, hq152_0, hq152_1, hq152_2⟩ := h152_
  have h153_ := iv_get hv152_ (k := 2) (j := 1) (l := 0) (u := 200) rfl
  refine jt_eq (bq_law_342 E d y3 a152_ b) ?_
  refine jt_bif (Nat.ble_eq_true_of_le (by omega)) ?_
  refine jt_grd (by omega) ?_
  refine jt_bif (Nat.ble_eq_true_of_le (by omega)) ?_
  refine jt_grd (by omega) ?_
  refine jt_bif (Nat.ble_eq_true_of_le (by omega)) ?_
  refine jt_grd (by omega) ?_
  refine jt_bif (Nat.ble_eq_true_of_le (by omega)) ?_
  refine jt_grd (by omega) ?_
  refine jt_bif (Nat.ble_eq_true_of_le (by omega)) ?_
  refine jt_grd (by omega) ?_
  refine jt_bI (sp_X12_feed E d (jd_le hd rfl) (E.2 ((jxw (y3 + 1)).toNat)) (E.2 ((jxw (y3 + 2)).toNat)) (E.2 ((jxw (y3 + 3)).toNat)) (E.2 ((jxw (y3 + 4)).toNat)) (E.2 ((jxw (y3 + 5)).toNat)) a152_ b hv152_) (fun r154_ a154_ b154_ h154_ => ?_)
  obtain ⟨hv154_, hf154_, rfl, hq154_0, hq154_1, hq154_2⟩ := h154_
  have h155_ := iv_get hv152_ (k := 146) (j := 22) (l := 0) (u := 200) rfl
  have h156_ : a152_ 146 22 = a 146 22 := hf152_ 146 22 rfl
  have h157_ := iv_get hv154_ (k := 146) (j := 22) (l := 0) (u := 200) rfl
  have hT154 : TAPE a154_ := TAPE_feed hg5 hr1 hq152_1 hq152_2 (fun j => hf152_ 164 j rfl) (hf152_ 146 22 rfl) hq154_1 hq154_2 (fun j => hf154_ 3 j rfl)
  refine jt_eq (bq_law_372 E d y3 a154_ b) ?_
  have h158_ := iv_get hv154_ (k := 4) (j := 6) (l := 0) (u := 40) rfl
  have h159_ : a154_ 4 6 = a152_ 4 6 := hf154_ 4 6 rfl
  have h160_ := iv_get hv152_ (k := 4) (j := 6) (l := 0) (u := 40) rfl
  have h161_ : a152_ 4 6 = a 4 6 := hf152_ 4 6 rfl
  have h162_ := iv_get hv154_ (k := 146) (j := 2) (l := 0) (u := 40) rfl
  have h163_ : a154_ 146 2 = a152_ 146 2 := hf154_ 146 2 rfl
  have h164_ := iv_get hv152_ (k := 146) (j := 2) (l := 0) (u := 40) rfl
  have h165_ : a152_ 146 2 = a 146 2 := hf152_ 146 2 rfl
  have h166_ := iv_get hv154_ (k := 2) (j := 1) (l := 0) (u := 200) rfl
  have h167_ : a154_ 2 1 = a152_ 2 1 := hf154_ 2 1 rfl
  have h168_ := iv_get hv154_ (k := 105) (j := 5) (l := 0) (u := 10) rfl
  have h169_ : a154_ 105 5 = a152_ 105 5 := hf154_ 105 5 rfl
  have h170_ := iv_get hv152_ (k := 105) (j := 5) (l := 0) (u := 10) rfl
  have h171_ : a152_ 105 5 = a 105 5 := hf152_ 105 5 rfl
  have h172_ := iv_get hv154_ (k := 146) (j := 68) (l := 0) (u := 10) rfl
  have h173_ : a154_ 146 68 = a152_ 146 68 := hf154_ 146 68 rfl
  have h174_ := iv_get hv152_ (k := 146) (j := 68) (l := 0) (u := 10) rfl
  have h175_ : a152_ 146 68 = a 146 68 := hf152_ 146 68 rfl
  exact hnext a154_ b hv154_ (WFW_fr (WFW_fr hg0 hf152_ (fun _ => rfl) (fun _ => rfl)) hf154_ (fun _ => rfl) (fun _ => rfl)) (SV_fr (SV_fr hg1 hf152_ (fun _ => rfl) (fun _ => rfl)) hf154_ (fun _ => rfl) (fun _ => rfl)) (OC_fr (OC_fr hg2 hf152_ rfl rfl (fun _ => rfl) (fun _ => rfl) (fun _ => rfl) (fun _ => rfl) (fun _ => rfl)) hf154_ rfl rfl (fun _ => rfl) (fun _ => rfl) (fun _ => rfl) (fun _ => rfl) (fun _ => rfl)) (FO_fr (FO_fr hg3 hf152_ rfl rfl (fun _ => rfl)) hf154_ rfl rfl (fun _ => rfl)) (FW_fr (FW_fr hg4 hf152_ rfl (fun _ => rfl)) hf154_ rfl (fun _ => rfl)) hT154 (show a154_ 4 6 = a154_ 146 2 from by omega) (show a154_ 2 1 = a154_ 146 22 from by omega) (show a154_ 105 5 = a154_ 146 68 from by omega)
theorem lw_op375 (E : jxE) (d : Nat) (hd : Nat.ble 60 (d + 1) = true) (hL : E.1 ≤ 3072) (y3 : Int) (hy0 : 0 ≤ y3) (hy1 : y3 + 6 ≤ E.1) (hnext : ∀ (a b : Nat → Nat → Int) (hv : iv a) (hg0 : WFW a) (hg1 : SV a) (hg2 : OC a) (hg3 : FO a) (hg4 : FW a) (hg5 : TAPE a) (hr0 : a 4 6 = a 146 2) (hr1 : a 2 1 = a 146 22) (hr2 : a 105 5 = a 146 68), jt (jxX E d 305 1189 [some (.inr (.inr (.inl 3000))), some (.inr (.inr (.inl 0))), some (.inr (.inr (.inl 146))), some (.inl y3)] [] (jxSH, a, b)) (fun v _ _ => v = [.inl 1])) (a b : Nat → Nat → Int) (hv : iv a) (hg0 : WFW a) (hg1 : SV a) (hg2 : OC a) (hg3 : FO a) (hg4 : FW a) (hg5 : TAPE a) (hr0 : a 4 6 = a 146 2) (hr1 : a 2 1 = a 146 22) (hr2 : a 105 5 = a 146 68) : jt (jxX E d 305 375 [some (.inr (.inr (.inl 3000))), some (.inr (.inr (.inl 0))), some (.inr (.inr (.inl 146))), some (.inl y3)] [] (jxSH, a, b)) (fun v _ _ => v = [.inl 1]) := by
  refine jt_eq (bq_law_375 E d y3 a b) ?_
  have h176_ := iv_get hv (k := 4) (j := 6) (l := 0) (u := 40) rfl
  have h177_ := iv_get hv (k := 146) (j := 2) (l := 0) (u := 40) rfl
  have h178_ := iv_get hv (k := 2) (j := 1) (l := 0) (u := 200) rfl
  have h179_ := iv_get hv (k := 146) (j := 22) (l := 0) (u := 200) rfl
  have h180_ := iv_get hv (k := 105) (j := 5) (l := 0) (u := 10) rfl
  have h181_ := iv_get hv (k := 146) (j := 68) (l := 0) (u := 10) rfl
  refine jt_bif (Nat.ble_eq_true_of_le (by omega)) ?_
  have h182_ : jxw (y3 + 1) = y3 + 1 := jxw_id (by omega) (by omega)
  refine jt_grd (by omega) ?_
  refine jt_bI (sp_X11_end E d (jd_le hd rfl) (E.2 ((jxw (y3 + 1)).toNat)) a b hv) (fun r183_ a183_ b183_ h183_ => ?_)
  obtain ⟨hv183_, hf183_, rfl, hq183_0⟩ := h183_
  have h184_ := iv_get hv183_ (k := 2) (j := 1) (l := 0) (u := 200) rfl
  refine jt_eq (bq_law_385 E d y3 a183_ b) ?_
  refine jt_bif (Nat.ble_eq_true_of_le (by omega)) ?_
  refine jt_grd (by omega) ?_
  refine jt_bI (sp_X12_end E d (jd_le hd rfl) (E.2 ((jxw (y3 + 1)).toNat)) a183_ b hv183_) (fun r185_ a185_ b185_ h185_ => ?_)
  obtain ⟨hv185_, hf185_, rfl, hq185_0⟩ := h185_
  have h186_ := iv_get hv183_ (k := 146) (j := 22) (l := 0) (u := 200) rfl
  have h187_ : a183_ 146 22 = a 146 22 := hf183_ 146 22 rfl
  have h188_ := iv_get hv185_ (k := 146) (j := 22) (l := 0) (u := 200) rfl
  have h189_ := iv_get hv185_ (k := 4) (j := 6) (l := 0) (u := 40) rfl
  have h190_ : a185_ 4 6 = a183_ 4 6 := hf185_ 4 6 rfl
  have h191_ := iv_get hv183_ (k := 4) (j := 6) (l := 0) (u := 40) rfl
  have h192_ : a183_ 4 6 = a 4 6 := hf183_ 4 6 rfl
  have h193_ := iv_get hv185_ (k := 146) (j := 2) (l := 0) (u := 40) rfl
  have h194_ : a185_ 146 2 = a183_ 146 2 := hf185_ 146 2 rfl
  have h195_ := iv_get hv183_ (k := 146) (j := 2) (l := 0) (u := 40) rfl
  have h196_ : a183_ 146 2 = a 146 2 := hf183_ 146 2 rfl
  have h197_ := iv_get hv185_ (k := 2) (j := 1) (l := 0) (u := 200) rfl
  have h198_ : a185_ 2 1 = a183_ 2 1 := hf185_ 2 1 rfl
  have h199_ := iv_get hv185_ (k := 105) (j := 5) (l := 0) (u := 10) rfl
  have h200_ : a185_ 105 5 = a183_ 105 5 := hf185_ 105 5 rfl
  have h201_ := iv_get hv183_ (k := 105) (j := 5) (l := 0) (u := 10) rfl
  have h202_ : a183_ 105 5 = a 105 5 := hf183_ 105 5 rfl
  have h203_ := iv_get hv185_ (k := 146) (j := 68) (l := 0) (u := 10) rfl
  have h204_ : a185_ 146 68 = a183_ 146 68 := hf185_ 146 68 rfl
  have h205_ := iv_get hv183_ (k := 146) (j := 68) (l := 0) (u := 10) rfl
  have h206_ : a183_ 146 68 = a 146 68 := hf183_ 146 68 rfl
  exact hnext a185_ b hv185_ (WFW_fr (WFW_fr hg0 hf183_ (fun _ => rfl) (fun _ => rfl)) hf185_ (fun _ => rfl) (fun _ => rfl)) (SV_fr (SV_fr hg1 hf183_ (fun _ => rfl) (fun _ => rfl)) hf185_ (fun _ => rfl) (fun _ => rfl)) (OC_fr (OC_fr hg2 hf183_ rfl rfl (fun _ => rfl) (fun _ => rfl) (fun _ => rfl) (fun _ => rfl) (fun _ => rfl)) hf185_ rfl rfl (fun _ => rfl) (fun _ => rfl) (fun _ => rfl) (fun _ => rfl) (fun _ => rfl)) (FO_fr (FO_fr hg3 hf183_ rfl rfl (fun _ => rfl)) hf185_ rfl rfl (fun _ => rfl)) (FW_fr (FW_fr hg4 hf183_ rfl (fun _ => rfl)) hf185_ rfl (fun _ => rfl)) (TAPE_fr (TAPE_fr hg5 hf183_ (fun _ => rfl) (fun _ => rfl)) hf185_ (fun _ => rfl) (fun _ => rfl)) (show a185_ 4 6 = a185_ 146 2 from by omega) (show a185_ 2 1 = a185_ 146 22 from by omega) (show a185_ 105 5 = a185_ 146 68 from by omega)
theorem lw_op398 (E : jxE) (d : Nat) (hd : Nat.ble 60 (d + 1) = true) (hL : E.1 ≤ 3072) (y3 : Int) (hy0 : 0 ≤ y3) (hy1 : y3 + 6 ≤ E.1) (hnext : ∀ (a b : Nat → Nat → Int) (hv : iv a) (hg0 : WFW a) (hg1 : SV a) (hg2 : OC a) (hg3 : FO a) (hg4 : FW a) (hg5 : TAPE a) (hr0 : a 4 6 = a 146 2) (hr1 : a 2 1 = a 146 22) (hr2 : a 105 5 = a 146 68), jt (jxX E d 305 1189 [some (.inr (.inr (.inl 3000))), some (.inr (.inr (.inl 0))), some (.inr (.inr (.inl 146))), some (.inl y3)] [] (jxSH, a, b)) (fun v _ _ => v = [.inl 1])) (a b : Nat → Nat → Int) (hv : iv a) (hg0 : WFW a) (hg1 : SV a) (hg2 : OC a) (hg3 : FO a) (hg4 : FW a) (hg5 : TAPE a) (hr0 : a 4 6 = a 146 2) (hr1 : a 2 1 = a 146 22) (hr2 : a 105 5 = a 146 68) : jt (jxX E d 305 398 [some (.inr (.inr (.inl 3000))), some (.inr (.inr (.inl 0))), some (.inr (.inr (.inl 146))), some (.inl y3)] [] (jxSH, a, b)) (fun v _ _ => v = [.inl 1]) := by
  refine jt_eq (bq_law_398 E d y3 a b) ?_
  have h207_ := iv_get hv (k := 4) (j := 6) (l := 0) (u := 40) rfl
  have h208_ := iv_get hv (k := 146) (j := 2) (l := 0) (u := 40) rfl
  have h209_ := iv_get hv (k := 2) (j := 1) (l := 0) (u := 200) rfl
  have h210_ := iv_get hv (k := 146) (j := 22) (l := 0) (u := 200) rfl
  have h211_ := iv_get hv (k := 105) (j := 5) (l := 0) (u := 10) rfl
  have h212_ := iv_get hv (k := 146) (j := 68) (l := 0) (u := 10) rfl
  refine jt_bif (Nat.ble_eq_true_of_le (by omega)) ?_
  have h213_ : jxw (y3 + 1) = y3 + 1 := jxw_id (by omega) (by omega)
  refine jt_grd (by omega) ?_
  refine jt_bI (sp_X11_wish E d (jd_le hd rfl) (E.2 ((jxw (y3 + 1)).toNat)) a b hv) (fun r214_ a214_ b214_ h214_ => ?_)
  obtain ⟨hv214_, hf214_, rfl, hq214_0, hq214_1, hq214_2⟩ := h214_
  have h215_ := iv_get hv214_ (k := 2) (j := 1) (l := 0) (u := 200) rfl
  refine jt_eq (bq_law_408 E d y3 a214_ b) ?_
  refine jt_bif (Nat.ble_eq_true_of_le (by omega)) ?_
  refine jt_grd (by omega) ?_
  refine jt_bI (sp_X12_wish E d (jd_le hd rfl) (E.2 ((jxw (y3 + 1)).toNat)) a214_ b hv214_ (WFW_fr hg0 hf214_ (fun _ => rfl) (fun _ => rfl))) (fun r216_ a216_ b216_ h216_ => ?_)
  obtain ⟨hv216_, hf216_, rfl, hq216_0, hq216_1, hq216_2, hq216_3⟩ := h216_
  have h217_ := iv_get hv214_ (k := 146) (j := 2) (l := 0) (u := 40) rfl
  have h218_ : a214_ 146 2 = a 146 2 := hf214_ 146 2 rfl
  have h219_ := iv_get hv214_ (k := 146) (j := 22) (l := 0) (u := 200) rfl
  have h220_ : a214_ 146 22 = a 146 22 := hf214_ 146 22 rfl
  have h221_ := iv_get hv216_ (k := 146) (j := 22) (l := 0) (u := 200) rfl
  have h222_ := iv_get hv216_ (k := 4) (j := 6) (l := 0) (u := 40) rfl
  have h223_ : a216_ 4 6 = a214_ 4 6 := hf216_ 4 6 rfl
  have h224_ := iv_get hv214_ (k := 4) (j := 6) (l := 0) (u := 40) rfl
  have h225_ : a214_ 4 6 = a 4 6 := hf214_ 4 6 rfl
  have h226_ := iv_get hv216_ (k := 146) (j := 2) (l := 0) (u := 40) rfl
  have h227_ : a216_ 146 2 = a214_ 146 2 := hf216_ 146 2 rfl
  have h228_ := iv_get hv216_ (k := 2) (j := 1) (l := 0) (u := 200) rfl
  have h229_ : a216_ 2 1 = a214_ 2 1 := hf216_ 2 1 rfl
  have h230_ := iv_get hv216_ (k := 105) (j := 5) (l := 0) (u := 10) rfl
  have h231_ : a216_ 105 5 = a214_ 105 5 := hf216_ 105 5 rfl
  have h232_ := iv_get hv214_ (k := 105) (j := 5) (l := 0) (u := 10) rfl
  have h233_ : a214_ 105 5 = a 105 5 := hf214_ 105 5 rfl
  have h234_ := iv_get hv216_ (k := 146) (j := 68) (l := 0) (u := 10) rfl
  have h235_ : a216_ 146 68 = a214_ 146 68 := hf216_ 146 68 rfl
  have h236_ := iv_get hv214_ (k := 146) (j := 68) (l := 0) (u := 10) rfl
  have h237_ : a214_ 146 68 = a 146 68 := hf214_ 146 68 rfl
  exact hnext a216_ b hv216_ hq216_0 (SV_fr (SV_fr hg1 hf214_ (fun _ => rfl) (fun _ => rfl)) hf216_ (fun _ => rfl) (fun _ => rfl)) (OC_fr (OC_fr hg2 hf214_ rfl rfl (fun _ => rfl) (fun _ => rfl) (fun _ => rfl) (fun _ => rfl) (fun _ => rfl)) hf216_ rfl rfl (fun _ => rfl) (fun _ => rfl) (fun _ => rfl) (fun _ => rfl) (fun _ => rfl)) (FO_fr (FO_fr hg3 hf214_ rfl rfl (fun _ => rfl)) hf216_ rfl rfl (fun _ => rfl)) (FW_fr (FW_fr hg4 hf214_ rfl (fun _ => rfl)) hf216_ rfl (fun _ => rfl)) (TAPE_fr (TAPE_fr hg5 hf214_ (fun _ => rfl) (fun _ => rfl)) hf216_ (fun _ => rfl) (fun _ => rfl)) (show a216_ 4 6 = a216_ 146 2 from by omega) (show a216_ 2 1 = a216_ 146 22 from by omega) (show a216_ 105 5 = a216_ 146 68 from by omega)
theorem lw_op421 (E : jxE) (d : Nat) (hd : Nat.ble 60 (d + 1) = true) (hL : E.1 ≤ 3072) (y3 : Int) (hy0 : 0 ≤ y3) (hy1 : y3 + 6 ≤ E.1) (hnext : ∀ (a b : Nat → Nat → Int) (hv : iv a) (hg0 : WFW a) (hg1 : SV a) (hg2 : OC a) (hg3 : FO a) (hg4 : FW a) (hg5 : TAPE a) (hr0 : a 4 6 = a 146 2) (hr1 : a 2 1 = a 146 22) (hr2 : a 105 5 = a 146 68), jt (jxX E d 305 1189 [some (.inr (.inr (.inl 3000))), some (.inr (.inr (.inl 0))), some (.inr (.inr (.inl 146))), some (.inl y3)] [] (jxSH, a, b)) (fun v _ _ => v = [.inl 1])) (a b : Nat → Nat → Int) (hv : iv a) (hg0 : WFW a) (hg1 : SV a) (hg2 : OC a) (hg3 : FO a) (hg4 : FW a) (hg5 : TAPE a) (hr0 : a 4 6 = a 146 2) (hr1 : a 2 1 = a 146 22) (hr2 : a 105 5 = a 146 68) : jt (jxX E d 305 421 [some (.inr (.inr (.inl 3000))), some (.inr (.inr (.inl 0))), some (.inr (.inr (.inl 146))), some (.inl y3)] [] (jxSH, a, b)) (fun v _ _ => v = [.inl 1]) := by
  refine jt_eq (bq_law_421 E d y3 a b) ?_
  have h238_ := iv_get hv (k := 4) (j := 6) (l := 0) (u := 40) rfl
  have h239_ := iv_get hv (k := 146) (j := 2) (l := 0) (u := 40) rfl
  have h240_ := iv_get hv (k := 2) (j := 1) (l := 0) (u := 200) rfl
  have h241_ := iv_get hv (k := 146) (j := 22) (l := 0) (u := 200) rfl
  have h242_ := iv_get hv (k := 105) (j := 5) (l := 0) (u := 10) rfl
  have h243_ := iv_get hv (k := 146) (j := 68) (l := 0) (u := 10) rfl
  refine jt_bif (Nat.ble_eq_true_of_le (by omega)) ?_
  have h244_ : jxw (y3 + 1) = y3 + 1 := jxw_id (by omega) (by omega)
  refine jt_grd (by omega) ?_
  refine jt_bif (Nat.ble_eq_true_of_le (by omega)) ?_
  have h245_ : jxw (y3 + 2) = y3 + 2 := jxw_id (by omega) (by omega)
  refine jt_grd (by omega) ?_
  refine jt_bI (sp_X11_meets E d (jd_le hd rfl) (E.2 ((jxw (y3 + 1)).toNat)) (E.2 ((jxw (y3 + 2)).toNat)) a b hv) (fun r246_ a246_ b246_ h246_ => ?_)
  obtain ⟨rfl, rfl, hq246_0⟩ := h246_
  refine jt_eq (bq_law_436 E d y3 a b) ?_
  refine jt_bif (Nat.ble_eq_true_of_le (by omega)) ?_
  refine jt_grd (by omega) ?_
  refine jt_bif (Nat.ble_eq_true_of_le (by omega)) ?_
  refine jt_grd (by omega) ?_
  refine jt_bI (sp_X12_meets E d (jd_le hd rfl) (E.2 ((jxw (y3 + 1)).toNat)) (E.2 ((jxw (y3 + 2)).toNat)) a b hv hg0) (fun r247_ a247_ b247_ h247_ => ?_)
  obtain ⟨hv247_, hf247_, rfl, hq247_0⟩ := h247_
  have h248_ := iv_get hv247_ (k := 4) (j := 6) (l := 0) (u := 40) rfl
  have h249_ : a247_ 4 6 = a 4 6 := hf247_ 4 6 rfl
  have h250_ := iv_get hv247_ (k := 146) (j := 2) (l := 0) (u := 40) rfl
  have h251_ : a247_ 146 2 = a 146 2 := hf247_ 146 2 rfl
  have h252_ := iv_get hv247_ (k := 2) (j := 1) (l := 0) (u := 200) rfl
  have h253_ : a247_ 2 1 = a 2 1 := hf247_ 2 1 rfl
  have h254_ := iv_get hv247_ (k := 146) (j := 22) (l := 0) (u := 200) rfl
  have h255_ : a247_ 146 22 = a 146 22 := hf247_ 146 22 rfl
  have h256_ := iv_get hv247_ (k := 105) (j := 5) (l := 0) (u := 10) rfl
  have h257_ : a247_ 105 5 = a 105 5 := hf247_ 105 5 rfl
  have h258_ := iv_get hv247_ (k := 146) (j := 68) (l := 0) (u := 10) rfl
  have h259_ : a247_ 146 68 = a 146 68 := hf247_ 146 68 rfl
  exact hnext a247_ b hv247_ (WFW_fr hg0 hf247_ (fun _ => rfl) (fun _ => rfl)) (SV_fr hg1 hf247_ (fun _ => rfl) (fun _ => rfl)) (OC_fr hg2 hf247_ rfl rfl (fun _ => rfl) (fun _ => rfl) (fun _ => rfl) (fun _ => rfl) (fun _ => rfl)) (FO_fr hg3 hf247_ rfl rfl (fun _ => rfl)) (FW_fr hg4 hf247_ rfl (fun _ => rfl)) (TAPE_fr hg5 hf247_ (fun _ => rfl) (fun _ => rfl)) (show a247_ 4 6 = a247_ 146 2 from by omega) (show a247_ 2 1 = a247_ 146 22 from by omega) (show a247_ 105 5 = a247_ 146 68 from by omega)
theorem lw_op454 (E : jxE) (d : Nat) (hd : Nat.ble 60 (d + 1) = true) (hL : E.1 ≤ 3072) (y3 : Int) (hy0 : 0 ≤ y3) (hy1 : y3 + 6 ≤ E.1) (hnext : ∀ (a b : Nat → Nat → Int) (hv : iv a) (hg0 : WFW a) (hg1 : SV a) (hg2 : OC a) (hg3 : FO a) (hg4 : FW a) (hg5 : TAPE a) (hr0 : a 4 6 = a 146 2) (hr1 : a 2 1 = a 146 22) (hr2 : a 105 5 = a 146 68), jt (jxX E d 305 1189 [some (.inr (.inr (.inl 3000))), some (.inr (.inr (.inl 0))), some (.inr (.inr (.inl 146))), some (.inl y3)] [] (jxSH, a, b)) (fun v _ _ => v = [.inl 1])) (a b : Nat → Nat → Int) (hv : iv a) (hg0 : WFW a) (hg1 : SV a) (hg2 : OC a) (hg3 : FO a) (hg4 : FW a) (hg5 : TAPE a) (hr0 : a 4 6 = a 146 2) (hr1 : a 2 1 = a 146 22) (hr2 : a 105 5 = a 146 68) : jt (jxX E d 305 454 [some (.inr (.inr (.inl 3000))), some (.inr (.inr (.inl 0))), some (.inr (.inr (.inl 146))), some (.inl y3)] [] (jxSH, a, b)) (fun v _ _ => v = [.inl 1]) := by
  refine jt_eq (bq_law_454 E d y3 a b) ?_
  have h260_ := iv_get hv (k := 4) (j := 6) (l := 0) (u := 40) rfl
  have h261_ := iv_get hv (k := 146) (j := 2) (l := 0) (u := 40) rfl
  have h262_ := iv_get hv (k := 2) (j := 1) (l := 0) (u := 200) rfl
  have h263_ := iv_get hv (k := 146) (j := 22) (l := 0) (u := 200) rfl
  have h264_ := iv_get hv (k := 105) (j := 5) (l := 0) (u := 10) rfl
  have h265_ := iv_get hv (k := 146) (j := 68) (l := 0) (u := 10) rfl
  refine jt_bI (sp_X11_rules E d (jd_le hd rfl) a b hv) (fun r266_ a266_ b266_ h266_ => ?_)
  obtain ⟨hv266_, hf266_, rfl, hq266_0, hq266_1, hq266_2⟩ := h266_
  have h267_ := iv_get hv266_ (k := 2) (j := 1) (l := 0) (u := 200) rfl
  refine jt_eq (bq_law_459 E d y3 a266_ b) ?_
  refine jt_bI (sp_X12_rules E d (jd_le hd rfl) a266_ b hv266_) (fun r268_ a268_ b268_ h268_ => ?_)
  obtain ⟨hv268_, hf268_, rfl, hq268_0, hq268_1, hq268_2⟩ := h268_
  have h269_ := iv_get hv266_ (k := 146) (j := 22) (l := 0) (u := 200) rfl
  have h270_ : a266_ 146 22 = a 146 22 := hf266_ 146 22 rfl
  have h271_ := iv_get hv268_ (k := 146) (j := 22) (l := 0) (u := 200) rfl
  have h272_ := iv_get hv268_ (k := 4) (j := 6) (l := 0) (u := 40) rfl
  have h273_ : a268_ 4 6 = a266_ 4 6 := hf268_ 4 6 rfl
  have h274_ := iv_get hv266_ (k := 4) (j := 6) (l := 0) (u := 40) rfl
  have h275_ : a266_ 4 6 = a 4 6 := hf266_ 4 6 rfl
  have h276_ := iv_get hv268_ (k := 146) (j := 2) (l := 0) (u := 40) rfl
  have h277_ : a268_ 146 2 = a266_ 146 2 := hf268_ 146 2 rfl
  have h278_ := iv_get hv266_ (k := 146) (j := 2) (l := 0) (u := 40) rfl
  have h279_ : a266_ 146 2 = a 146 2 := hf266_ 146 2 rfl
  have h280_ := iv_get hv268_ (k := 2) (j := 1) (l := 0) (u := 200) rfl
  have h281_ : a268_ 2 1 = a266_ 2 1 := hf268_ 2 1 rfl
  have h282_ := iv_get hv268_ (k := 105) (j := 5) (l := 0) (u := 10) rfl
  have h283_ : a268_ 105 5 = a266_ 105 5 := hf268_ 105 5 rfl
  have h284_ := iv_get hv266_ (k := 105) (j := 5) (l := 0) (u := 10) rfl
  have h285_ : a266_ 105 5 = a 105 5 := hf266_ 105 5 rfl
  have h286_ := iv_get hv268_ (k := 146) (j := 68) (l := 0) (u := 10) rfl
  have h287_ : a268_ 146 68 = a266_ 146 68 := hf268_ 146 68 rfl
  have h288_ := iv_get hv266_ (k := 146) (j := 68) (l := 0) (u := 10) rfl
  have h289_ : a266_ 146 68 = a 146 68 := hf266_ 146 68 rfl
  exact hnext a268_ b hv268_ (WFW_fr (WFW_fr hg0 hf266_ (fun _ => rfl) (fun _ => rfl)) hf268_ (fun _ => rfl) (fun _ => rfl)) (SV_fr (SV_fr hg1 hf266_ (fun _ => rfl) (fun _ => rfl)) hf268_ (fun _ => rfl) (fun _ => rfl)) (OC_fr (OC_fr hg2 hf266_ rfl rfl (fun _ => rfl) (fun _ => rfl) (fun _ => rfl) (fun _ => rfl) (fun _ => rfl)) hf268_ rfl rfl (fun _ => rfl) (fun _ => rfl) (fun _ => rfl) (fun _ => rfl) (fun _ => rfl)) (FO_fr (FO_fr hg3 hf266_ rfl rfl (fun _ => rfl)) hf268_ rfl rfl (fun _ => rfl)) (FW_fr (FW_fr hg4 hf266_ rfl (fun _ => rfl)) hf268_ rfl (fun _ => rfl)) (TAPE_fr (TAPE_fr hg5 hf266_ (fun _ => rfl) (fun _ => rfl)) hf268_ (fun _ => rfl) (fun _ => rfl)) (show a268_ 4 6 = a268_ 146 2 from by omega) (show a268_ 2 1 = a268_ 146 22 from by omega) (show a268_ 105 5 = a268_ 146 68 from by omega)
theorem lw_op467 (E : jxE) (d : Nat) (hd : Nat.ble 60 (d + 1) = true) (hL : E.1 ≤ 3072) (y3 : Int) (hy0 : 0 ≤ y3) (hy1 : y3 + 6 ≤ E.1) (hnext : ∀ (a b : Nat → Nat → Int) (hv : iv a) (hg0 : WFW a) (hg1 : SV a) (hg2 : OC a) (hg3 : FO a) (hg4 : FW a) (hg5 : TAPE a) (hr0 : a 4 6 = a 146 2) (hr1 : a 2 1 = a 146 22) (hr2 : a 105 5 = a 146 68), jt (jxX E d 305 1189 [some (.inr (.inr (.inl 3000))), some (.inr (.inr (.inl 0))), some (.inr (.inr (.inl 146))), some (.inl y3)] [] (jxSH, a, b)) (fun v _ _ => v = [.inl 1])) (a b : Nat → Nat → Int) (hv : iv a) (hg0 : WFW a) (hg1 : SV a) (hg2 : OC a) (hg3 : FO a) (hg4 : FW a) (hg5 : TAPE a) (hr0 : a 4 6 = a 146 2) (hr1 : a 2 1 = a 146 22) (hr2 : a 105 5 = a 146 68) : jt (jxX E d 305 467 [some (.inr (.inr (.inl 3000))), some (.inr (.inr (.inl 0))), some (.inr (.inr (.inl 146))), some (.inl y3)] [] (jxSH, a, b)) (fun v _ _ => v = [.inl 1]) := by
  refine jt_eq (bq_law_467 E d y3 a b) ?_
  have h290_ := iv_get hv (k := 4) (j := 6) (l := 0) (u := 40) rfl
  have h291_ := iv_get hv (k := 146) (j := 2) (l := 0) (u := 40) rfl
  have h292_ := iv_get hv (k := 2) (j := 1) (l := 0) (u := 200) rfl
  have h293_ := iv_get hv (k := 146) (j := 22) (l := 0) (u := 200) rfl
  have h294_ := iv_get hv (k := 105) (j := 5) (l := 0) (u := 10) rfl
  have h295_ := iv_get hv (k := 146) (j := 68) (l := 0) (u := 10) rfl
  refine jt_bif (Nat.ble_eq_true_of_le (by omega)) ?_
  have h296_ : jxw (y3 + 1) = y3 + 1 := jxw_id (by omega) (by omega)
  refine jt_grd (by omega) ?_
  refine jt_bI (sp_X11_ask E d (jd_le hd rfl) (E.2 ((jxw (y3 + 1)).toNat)) a b hv) (fun r297_ a297_ b297_ h297_ => ?_)
  obtain ⟨hv297_, hf297_, rfl, hq297_0⟩ := h297_
  refine jt_eq (bq_law_477 E d y3 a297_ b) ?_
  refine jt_bif (Nat.ble_eq_true_of_le (by omega)) ?_
  refine jt_grd (by omega) ?_
  refine jt_bI (sp_X12_ask E d (jd_le hd rfl) (E.2 ((jxw (y3 + 1)).toNat)) a297_ b hv297_ (WFW_fr hg0 hf297_ (fun _ => rfl) (fun _ => rfl)) (OC_fr hg2 hf297_ rfl rfl (fun _ => rfl) (fun _ => rfl) (fun _ => rfl) (fun _ => rfl) (fun _ => rfl))) (fun r298_ a298_ b298_ h298_ => ?_)
  obtain ⟨hv298_, hf298_, rfl, hq298_0, hq298_1⟩ := h298_
  have h299_ := iv_get hv297_ (k := 146) (j := 2) (l := 0) (u := 40) rfl
  have h300_ : a297_ 146 2 = a 146 2 := hf297_ 146 2 rfl
  have h301_ := iv_get hv298_ (k := 4) (j := 6) (l := 0) (u := 40) rfl
  have h302_ : a298_ 4 6 = a297_ 4 6 := hf298_ 4 6 rfl
  have h303_ := iv_get hv297_ (k := 4) (j := 6) (l := 0) (u := 40) rfl
  have h304_ : a297_ 4 6 = a 4 6 := hf297_ 4 6 rfl
  have h305_ := iv_get hv298_ (k := 146) (j := 2) (l := 0) (u := 40) rfl
  have h306_ : a298_ 146 2 = a297_ 146 2 := hf298_ 146 2 rfl
  have h307_ := iv_get hv298_ (k := 2) (j := 1) (l := 0) (u := 200) rfl
  have h308_ : a298_ 2 1 = a297_ 2 1 := hf298_ 2 1 rfl
  have h309_ := iv_get hv297_ (k := 2) (j := 1) (l := 0) (u := 200) rfl
  have h310_ : a297_ 2 1 = a 2 1 := hf297_ 2 1 rfl
  have h311_ := iv_get hv298_ (k := 146) (j := 22) (l := 0) (u := 200) rfl
  have h312_ : a298_ 146 22 = a297_ 146 22 := hf298_ 146 22 rfl
  have h313_ := iv_get hv297_ (k := 146) (j := 22) (l := 0) (u := 200) rfl
  have h314_ : a297_ 146 22 = a 146 22 := hf297_ 146 22 rfl
  have h315_ := iv_get hv298_ (k := 105) (j := 5) (l := 0) (u := 10) rfl
  have h316_ : a298_ 105 5 = a297_ 105 5 := hf298_ 105 5 rfl
  have h317_ := iv_get hv297_ (k := 105) (j := 5) (l := 0) (u := 10) rfl
  have h318_ : a297_ 105 5 = a 105 5 := hf297_ 105 5 rfl
  have h319_ := iv_get hv298_ (k := 146) (j := 68) (l := 0) (u := 10) rfl
  have h320_ : a298_ 146 68 = a297_ 146 68 := hf298_ 146 68 rfl
  have h321_ := iv_get hv297_ (k := 146) (j := 68) (l := 0) (u := 10) rfl
  have h322_ : a297_ 146 68 = a 146 68 := hf297_ 146 68 rfl
  exact hnext a298_ b hv298_ (WFW_fr (WFW_fr hg0 hf297_ (fun _ => rfl) (fun _ => rfl)) hf298_ (fun _ => rfl) (fun _ => rfl)) (SV_fr (SV_fr hg1 hf297_ (fun _ => rfl) (fun _ => rfl)) hf298_ (fun _ => rfl) (fun _ => rfl)) hq298_0 (FO_fr (FO_fr hg3 hf297_ rfl rfl (fun _ => rfl)) hf298_ rfl rfl (fun _ => rfl)) (FW_fr (FW_fr hg4 hf297_ rfl (fun _ => rfl)) hf298_ rfl (fun _ => rfl)) (TAPE_fr (TAPE_fr hg5 hf297_ (fun _ => rfl) (fun _ => rfl)) hf298_ (fun _ => rfl) (fun _ => rfl)) (show a298_ 4 6 = a298_ 146 2 from by omega) (show a298_ 2 1 = a298_ 146 22 from by omega) (show a298_ 105 5 = a298_ 146 68 from by omega)
theorem lw_op490 (E : jxE) (d : Nat) (hd : Nat.ble 60 (d + 1) = true) (hL : E.1 ≤ 3072) (y3 : Int) (hy0 : 0 ≤ y3) (hy1 : y3 + 6 ≤ E.1) (hnext : ∀ (a b : Nat → Nat → Int) (hv : iv a) (hg0 : WFW a) (hg1 : SV a) (hg2 : OC a) (hg3 : FO a) (hg4 : FW a) (hg5 : TAPE a) (hr0 : a 4 6 = a 146 2) (hr1 : a 2 1 = a 146 22) (hr2 : a 105 5 = a 146 68), jt (jxX E d 305 1189 [some (.inr (.inr (.inl 3000))), some (.inr (.inr (.inl 0))), some (.inr (.inr (.inl 146))), some (.inl y3)] [] (jxSH, a, b)) (fun v _ _ => v = [.inl 1])) (a b : Nat → Nat → Int) (hv : iv a) (hg0 : WFW a) (hg1 : SV a) (hg2 : OC a) (hg3 : FO a) (hg4 : FW a) (hg5 : TAPE a) (hr0 : a 4 6 = a 146 2) (hr1 : a 2 1 = a 146 22) (hr2 : a 105 5 = a 146 68) : jt (jxX E d 305 490 [some (.inr (.inr (.inl 3000))), some (.inr (.inr (.inl 0))), some (.inr (.inr (.inl 146))), some (.inl y3)] [] (jxSH, a, b)) (fun v _ _ => v = [.inl 1]) := by
  refine jt_eq (bq_law_490 E d y3 a b) ?_
  have h323_ := iv_get hv (k := 4) (j := 6) (l := 0) (u := 40) rfl
  have h324_ := iv_get hv (k := 146) (j := 2) (l := 0) (u := 40) rfl
  have h325_ := iv_get hv (k := 2) (j := 1) (l := 0) (u := 200) rfl
  have h326_ := iv_get hv (k := 146) (j := 22) (l := 0) (u := 200) rfl
  have h327_ := iv_get hv (k := 105) (j := 5) (l := 0) (u := 10) rfl
  have h328_ := iv_get hv (k := 146) (j := 68) (l := 0) (u := 10) rfl
  refine jt_bif (Nat.ble_eq_true_of_le (by omega)) ?_
  have h329_ : jxw (y3 + 1) = y3 + 1 := jxw_id (by omega) (by omega)
  refine jt_grd (by omega) ?_
  refine jt_bif (Nat.ble_eq_true_of_le (by omega)) ?_
  have h330_ : jxw (y3 + 2) = y3 + 2 := jxw_id (by omega) (by omega)
  refine jt_grd (by omega) ?_
  refine jt_bI (sp_X11_may E d (jd_le hd rfl) (E.2 ((jxw (y3 + 1)).toNat)) (E.2 ((jxw (y3 + 2)).toNat)) a b hv) (fun r331_ a331_ b331_ h331_ => ?_)
  obtain ⟨hv331_, hf331_, rfl, hq331_0⟩ := h331_
  refine jt_eq (bq_law_505 E d y3 a331_ b) ?_
  refine jt_bif (Nat.ble_eq_true_of_le (by omega)) ?_
  refine jt_grd (by omega) ?_
  refine jt_bif (Nat.ble_eq_true_of_le (by omega)) ?_
  refine jt_grd (by omega) ?_
  refine jt_bI (sp_X12_may E d (jd_le hd rfl) (E.2 ((jxw (y3 + 1)).toNat)) (E.2 ((jxw (y3 + 2)).toNat)) a331_ b hv331_ (WFW_fr hg0 hf331_ (fun _ => rfl) (fun _ => rfl))) (fun r332_ a332_ b332_ h332_ => ?_)
  obtain ⟨hv332_, hf332_, rfl, hq332_0⟩ := h332_
  have h333_ := iv_get hv331_ (k := 146) (j := 2) (l := 0) (u := 40) rfl
  have h334_ : a331_ 146 2 = a 146 2 := hf331_ 146 2 rfl
  have h335_ := iv_get hv332_ (k := 4) (j := 6) (l := 0) (u := 40) rfl
  have h336_ : a332_ 4 6 = a331_ 4 6 := hf332_ 4 6 rfl
  have h337_ := iv_get hv331_ (k := 4) (j := 6) (l := 0) (u := 40) rfl
  have h338_ : a331_ 4 6 = a 4 6 := hf331_ 4 6 rfl
  have h339_ := iv_get hv332_ (k := 146) (j := 2) (l := 0) (u := 40) rfl
  have h340_ : a332_ 146 2 = a331_ 146 2 := hf332_ 146 2 rfl
  have h341_ := iv_get hv332_ (k := 2) (j := 1) (l := 0) (u := 200) rfl
  have h342_ : a332_ 2 1 = a331_ 2 1 := hf332_ 2 1 rfl
  have h343_ := iv_get hv331_ (k := 2) (j := 1) (l := 0) (u := 200) rfl
  have h344_ : a331_ 2 1 = a 2 1 := hf331_ 2 1 rfl
  have h345_ := iv_get hv332_ (k := 146) (j := 22) (l := 0) (u := 200) rfl
  have h346_ : a332_ 146 22 = a331_ 146 22 := hf332_ 146 22 rfl
  have h347_ := iv_get hv331_ (k := 146) (j := 22) (l := 0) (u := 200) rfl
  have h348_ : a331_ 146 22 = a 146 22 := hf331_ 146 22 rfl
  have h349_ := iv_get hv332_ (k := 105) (j := 5) (l := 0) (u := 10) rfl
  have h350_ : a332_ 105 5 = a331_ 105 5 := hf332_ 105 5 rfl
  have h351_ := iv_get hv331_ (k := 105) (j := 5) (l := 0) (u := 10) rfl
  have h352_ : a331_ 105 5 = a 105 5 := hf331_ 105 5 rfl
  have h353_ := iv_get hv332_ (k := 146) (j := 68) (l := 0) (u := 10) rfl
  have h354_ : a332_ 146 68 = a331_ 146 68 := hf332_ 146 68 rfl
  have h355_ := iv_get hv331_ (k := 146) (j := 68) (l := 0) (u := 10) rfl
  have h356_ : a331_ 146 68 = a 146 68 := hf331_ 146 68 rfl
  exact hnext a332_ b hv332_ (WFW_fr (WFW_fr hg0 hf331_ (fun _ => rfl) (fun _ => rfl)) hf332_ (fun _ => rfl) (fun _ => rfl)) (SV_fr (SV_fr hg1 hf331_ (fun _ => rfl) (fun _ => rfl)) hf332_ (fun _ => rfl) (fun _ => rfl)) (OC_fr (OC_fr hg2 hf331_ rfl rfl (fun _ => rfl) (fun _ => rfl) (fun _ => rfl) (fun _ => rfl) (fun _ => rfl)) hf332_ rfl rfl (fun _ => rfl) (fun _ => rfl) (fun _ => rfl) (fun _ => rfl) (fun _ => rfl)) (FO_fr (FO_fr hg3 hf331_ rfl rfl (fun _ => rfl)) hf332_ rfl rfl (fun _ => rfl)) (FW_fr (FW_fr hg4 hf331_ rfl (fun _ => rfl)) hf332_ rfl (fun _ => rfl)) (TAPE_fr (TAPE_fr hg5 hf331_ (fun _ => rfl) (fun _ => rfl)) hf332_ (fun _ => rfl) (fun _ => rfl)) (show a332_ 4 6 = a332_ 146 2 from by omega) (show a332_ 2 1 = a332_ 146 22 from by omega) (show a332_ 105 5 = a332_ 146 68 from by omega)
theorem lw_op523 (E : jxE) (d : Nat) (hd : Nat.ble 60 (d + 1) = true) (hL : E.1 ≤ 3072) (y3 : Int) (hy0 : 0 ≤ y3) (hy1 : y3 + 6 ≤ E.1) (hnext : ∀ (a b : Nat → Nat → Int) (hv : iv a) (hg0 : WFW a) (hg1 : SV a) (hg2 : OC a) (hg3 : FO a) (hg4 : FW a) (hg5 : TAPE a) (hr0 : a 4 6 = a 146 2) (hr1 : a 2 1 = a 146 22) (hr2 : a 105 5 = a 146 68), jt (jxX E d 305 1189 [some (.inr (.inr (.inl 3000))), some (.inr (.inr (.inl 0))), some (.inr (.inr (.inl 146))), some (.inl y3)] [] (jxSH, a, b)) (fun v _ _ => v = [.inl 1])) (a b : Nat → Nat → Int) (hv : iv a) (hg0 : WFW a) (hg1 : SV a) (hg2 : OC a) (hg3 : FO a) (hg4 : FW a) (hg5 : TAPE a) (hr0 : a 4 6 = a 146 2) (hr1 : a 2 1 = a 146 22) (hr2 : a 105 5 = a 146 68) : jt (jxX E d 305 523 [some (.inr (.inr (.inl 3000))), some (.inr (.inr (.inl 0))), some (.inr (.inr (.inl 146))), some (.inl y3)] [] (jxSH, a, b)) (fun v _ _ => v = [.inl 1]) := by
  refine jt_eq (bq_law_523 E d y3 a b) ?_
  have h357_ := iv_get hv (k := 4) (j := 6) (l := 0) (u := 40) rfl
  have h358_ := iv_get hv (k := 146) (j := 2) (l := 0) (u := 40) rfl
  have h359_ := iv_get hv (k := 2) (j := 1) (l := 0) (u := 200) rfl
  have h360_ := iv_get hv (k := 146) (j := 22) (l := 0) (u := 200) rfl
  have h361_ := iv_get hv (k := 105) (j := 5) (l := 0) (u := 10) rfl
  have h362_ := iv_get hv (k := 146) (j := 68) (l := 0) (u := 10) rfl
  refine jt_bif (Nat.ble_eq_true_of_le (by omega)) ?_
  have h363_ : jxw (y3 + 1) = y3 + 1 := jxw_id (by omega) (by omega)
  refine jt_grd (by omega) ?_
  refine jt_bI (sp_X11_list E d (jd_le hd rfl) (E.2 ((jxw (y3 + 1)).toNat)) a b hv) (fun r364_ a364_ b364_ h364_ => ?_)
  obtain ⟨hv364_, hf364_, rfl, hq364_0⟩ := h364_
  refine jt_eq (bq_law_533 E d y3 a364_ b) ?_
  refine jt_bif (Nat.ble_eq_true_of_le (by omega)) ?_
  refine jt_grd (by omega) ?_
  refine jt_bI (sp_X12_list E d (jd_le hd rfl) (E.2 ((jxw (y3 + 1)).toNat)) a364_ b hv364_) (fun r365_ a365_ b365_ h365_ => ?_)
  obtain ⟨hv365_, hf365_, rfl, hq365_0⟩ := h365_
  have h366_ := iv_get hv364_ (k := 146) (j := 2) (l := 0) (u := 40) rfl
  have h367_ : a364_ 146 2 = a 146 2 := hf364_ 146 2 rfl
  have h368_ := iv_get hv365_ (k := 4) (j := 6) (l := 0) (u := 40) rfl
  have h369_ : a365_ 4 6 = a364_ 4 6 := hf365_ 4 6 rfl
  have h370_ := iv_get hv364_ (k := 4) (j := 6) (l := 0) (u := 40) rfl
  have h371_ : a364_ 4 6 = a 4 6 := hf364_ 4 6 rfl
  have h372_ := iv_get hv365_ (k := 146) (j := 2) (l := 0) (u := 40) rfl
  have h373_ : a365_ 146 2 = a364_ 146 2 := hf365_ 146 2 rfl
  have h374_ := iv_get hv365_ (k := 2) (j := 1) (l := 0) (u := 200) rfl
  have h375_ : a365_ 2 1 = a364_ 2 1 := hf365_ 2 1 rfl
  have h376_ := iv_get hv364_ (k := 2) (j := 1) (l := 0) (u := 200) rfl
  have h377_ : a364_ 2 1 = a 2 1 := hf364_ 2 1 rfl
  have h378_ := iv_get hv365_ (k := 146) (j := 22) (l := 0) (u := 200) rfl
  have h379_ : a365_ 146 22 = a364_ 146 22 := hf365_ 146 22 rfl
  have h380_ := iv_get hv364_ (k := 146) (j := 22) (l := 0) (u := 200) rfl
  have h381_ : a364_ 146 22 = a 146 22 := hf364_ 146 22 rfl
  have h382_ := iv_get hv365_ (k := 105) (j := 5) (l := 0) (u := 10) rfl
  have h383_ : a365_ 105 5 = a364_ 105 5 := hf365_ 105 5 rfl
  have h384_ := iv_get hv364_ (k := 105) (j := 5) (l := 0) (u := 10) rfl
  have h385_ : a364_ 105 5 = a 105 5 := hf364_ 105 5 rfl
  have h386_ := iv_get hv365_ (k := 146) (j := 68) (l := 0) (u := 10) rfl
  have h387_ : a365_ 146 68 = a364_ 146 68 := hf365_ 146 68 rfl
  have h388_ := iv_get hv364_ (k := 146) (j := 68) (l := 0) (u := 10) rfl
  have h389_ : a364_ 146 68 = a 146 68 := hf364_ 146 68 rfl
  exact hnext a365_ b hv365_ (WFW_fr (WFW_fr hg0 hf364_ (fun _ => rfl) (fun _ => rfl)) hf365_ (fun _ => rfl) (fun _ => rfl)) (SV_fr (SV_fr hg1 hf364_ (fun _ => rfl) (fun _ => rfl)) hf365_ (fun _ => rfl) (fun _ => rfl)) (OC_fr (OC_fr hg2 hf364_ rfl rfl (fun _ => rfl) (fun _ => rfl) (fun _ => rfl) (fun _ => rfl) (fun _ => rfl)) hf365_ rfl rfl (fun _ => rfl) (fun _ => rfl) (fun _ => rfl) (fun _ => rfl) (fun _ => rfl)) (FO_fr (FO_fr hg3 hf364_ rfl rfl (fun _ => rfl)) hf365_ rfl rfl (fun _ => rfl)) (FW_fr (FW_fr hg4 hf364_ rfl (fun _ => rfl)) hf365_ rfl (fun _ => rfl)) (TAPE_fr (TAPE_fr hg5 hf364_ (fun _ => rfl) (fun _ => rfl)) hf365_ (fun _ => rfl) (fun _ => rfl)) (show a365_ 4 6 = a365_ 146 2 from by omega) (show a365_ 2 1 = a365_ 146 22 from by omega) (show a365_ 105 5 = a365_ 146 68 from by omega)
theorem lw_op546 (E : jxE) (d : Nat) (hd : Nat.ble 60 (d + 1) = true) (hL : E.1 ≤ 3072) (y3 : Int) (hy0 : 0 ≤ y3) (hy1 : y3 + 6 ≤ E.1) (hnext : ∀ (a b : Nat → Nat → Int) (hv : iv a) (hg0 : WFW a) (hg1 : SV a) (hg2 : OC a) (hg3 : FO a) (hg4 : FW a) (hg5 : TAPE a) (hr0 : a 4 6 = a 146 2) (hr1 : a 2 1 = a 146 22) (hr2 : a 105 5 = a 146 68), jt (jxX E d 305 1189 [some (.inr (.inr (.inl 3000))), some (.inr (.inr (.inl 0))), some (.inr (.inr (.inl 146))), some (.inl y3)] [] (jxSH, a, b)) (fun v _ _ => v = [.inl 1])) (a b : Nat → Nat → Int) (hv : iv a) (hg0 : WFW a) (hg1 : SV a) (hg2 : OC a) (hg3 : FO a) (hg4 : FW a) (hg5 : TAPE a) (hr0 : a 4 6 = a 146 2) (hr1 : a 2 1 = a 146 22) (hr2 : a 105 5 = a 146 68) : jt (jxX E d 305 546 [some (.inr (.inr (.inl 3000))), some (.inr (.inr (.inl 0))), some (.inr (.inr (.inl 146))), some (.inl y3)] [] (jxSH, a, b)) (fun v _ _ => v = [.inl 1]) := by
  refine jt_eq (bq_law_546 E d y3 a b) ?_
  have h390_ := iv_get hv (k := 4) (j := 6) (l := 0) (u := 40) rfl
  have h391_ := iv_get hv (k := 146) (j := 2) (l := 0) (u := 40) rfl
  have h392_ := iv_get hv (k := 2) (j := 1) (l := 0) (u := 200) rfl
  have h393_ := iv_get hv (k := 146) (j := 22) (l := 0) (u := 200) rfl
  have h394_ := iv_get hv (k := 105) (j := 5) (l := 0) (u := 10) rfl
  have h395_ := iv_get hv (k := 146) (j := 68) (l := 0) (u := 10) rfl
  refine jt_bI (sp_X11_give E d (jd_le hd rfl) a b hv) (fun r396_ a396_ b396_ h396_ => ?_)
  obtain ⟨hv396_, hf396_, hq396_0⟩ := h396_
  have h397_ := iv_get hv (k := 0) (j := 9) (l := 0) (u := 8) rfl
  refine jt_eq (bq_law_551 E d y3 a396_ b396_) ?_
  refine jt_bI (sp_X12_give E d (jd_le hd rfl) a396_ b396_ hv396_ (WFW_fr hg0 hf396_ (fun _ => rfl) (fun _ => rfl)) (OC_fr hg2 hf396_ rfl rfl (fun _ => rfl) (fun _ => rfl) (fun _ => rfl) (fun _ => rfl) (fun _ => rfl))) (fun r398_ a398_ b398_ h398_ => ?_)
  obtain ⟨hv398_, hf398_, hq398_0, hq398_1⟩ := h398_
  have h399_ := iv_get hv396_ (k := 146) (j := 42) (l := 0) (u := 8) rfl
  have h400_ : a396_ 146 42 = a 146 42 := hf396_ 146 42 rfl
  have h401_ := iv_get hv (k := 146) (j := 42) (l := 0) (u := 8) rfl
  have h402_ := iv_get hv398_ (k := 4) (j := 6) (l := 0) (u := 40) rfl
  have h403_ : a398_ 4 6 = a396_ 4 6 := hf398_ 4 6 rfl
  have h404_ := iv_get hv396_ (k := 4) (j := 6) (l := 0) (u := 40) rfl
  have h405_ : a396_ 4 6 = a 4 6 := hf396_ 4 6 rfl
  have h406_ := iv_get hv398_ (k := 146) (j := 2) (l := 0) (u := 40) rfl
  have h407_ : a398_ 146 2 = a396_ 146 2 := hf398_ 146 2 rfl
  have h408_ := iv_get hv396_ (k := 146) (j := 2) (l := 0) (u := 40) rfl
  have h409_ : a396_ 146 2 = a 146 2 := hf396_ 146 2 rfl
  have h410_ := iv_get hv398_ (k := 2) (j := 1) (l := 0) (u := 200) rfl
  have h411_ : a398_ 2 1 = a396_ 2 1 := hf398_ 2 1 rfl
  have h412_ := iv_get hv396_ (k := 2) (j := 1) (l := 0) (u := 200) rfl
  have h413_ : a396_ 2 1 = a 2 1 := hf396_ 2 1 rfl
  have h414_ := iv_get hv398_ (k := 146) (j := 22) (l := 0) (u := 200) rfl
  have h415_ : a398_ 146 22 = a396_ 146 22 := hf398_ 146 22 rfl
  have h416_ := iv_get hv396_ (k := 146) (j := 22) (l := 0) (u := 200) rfl
  have h417_ : a396_ 146 22 = a 146 22 := hf396_ 146 22 rfl
  have h418_ := iv_get hv398_ (k := 105) (j := 5) (l := 0) (u := 10) rfl
  have h419_ : a398_ 105 5 = a396_ 105 5 := hf398_ 105 5 rfl
  have h420_ := iv_get hv396_ (k := 105) (j := 5) (l := 0) (u := 10) rfl
  have h421_ : a396_ 105 5 = a 105 5 := hf396_ 105 5 rfl
  have h422_ := iv_get hv398_ (k := 146) (j := 68) (l := 0) (u := 10) rfl
  have h423_ : a398_ 146 68 = a396_ 146 68 := hf398_ 146 68 rfl
  have h424_ := iv_get hv396_ (k := 146) (j := 68) (l := 0) (u := 10) rfl
  have h425_ : a396_ 146 68 = a 146 68 := hf396_ 146 68 rfl
  exact hnext a398_ b398_ hv398_ (WFW_fr (WFW_fr hg0 hf396_ (fun _ => rfl) (fun _ => rfl)) hf398_ (fun _ => rfl) (fun _ => rfl)) (SV_fr (SV_fr hg1 hf396_ (fun _ => rfl) (fun _ => rfl)) hf398_ (fun _ => rfl) (fun _ => rfl)) hq398_0 (FO_fr (FO_fr hg3 hf396_ rfl rfl (fun _ => rfl)) hf398_ rfl rfl (fun _ => rfl)) (FW_fr (FW_fr hg4 hf396_ rfl (fun _ => rfl)) hf398_ rfl (fun _ => rfl)) (TAPE_fr (TAPE_fr hg5 hf396_ (fun _ => rfl) (fun _ => rfl)) hf398_ (fun _ => rfl) (fun _ => rfl)) (show a398_ 4 6 = a398_ 146 2 from by omega) (show a398_ 2 1 = a398_ 146 22 from by omega) (show a398_ 105 5 = a398_ 146 68 from by omega)
theorem lw_op559 (E : jxE) (d : Nat) (hd : Nat.ble 60 (d + 1) = true) (hL : E.1 ≤ 3072) (y3 : Int) (hy0 : 0 ≤ y3) (hy1 : y3 + 6 ≤ E.1) (hnext : ∀ (a b : Nat → Nat → Int) (hv : iv a) (hg0 : WFW a) (hg1 : SV a) (hg2 : OC a) (hg3 : FO a) (hg4 : FW a) (hg5 : TAPE a) (hr0 : a 4 6 = a 146 2) (hr1 : a 2 1 = a 146 22) (hr2 : a 105 5 = a 146 68), jt (jxX E d 305 1189 [some (.inr (.inr (.inl 3000))), some (.inr (.inr (.inl 0))), some (.inr (.inr (.inl 146))), some (.inl y3)] [] (jxSH, a, b)) (fun v _ _ => v = [.inl 1])) (a b : Nat → Nat → Int) (hv : iv a) (hg0 : WFW a) (hg1 : SV a) (hg2 : OC a) (hg3 : FO a) (hg4 : FW a) (hg5 : TAPE a) (hr0 : a 4 6 = a 146 2) (hr1 : a 2 1 = a 146 22) (hr2 : a 105 5 = a 146 68) : jt (jxX E d 305 559 [some (.inr (.inr (.inl 3000))), some (.inr (.inr (.inl 0))), some (.inr (.inr (.inl 146))), some (.inl y3)] [] (jxSH, a, b)) (fun v _ _ => v = [.inl 1]) := by
  refine jt_eq (bq_law_559 E d y3 a b) ?_
  have h426_ := iv_get hv (k := 4) (j := 6) (l := 0) (u := 40) rfl
  have h427_ := iv_get hv (k := 146) (j := 2) (l := 0) (u := 40) rfl
  have h428_ := iv_get hv (k := 2) (j := 1) (l := 0) (u := 200) rfl
  have h429_ := iv_get hv (k := 146) (j := 22) (l := 0) (u := 200) rfl
  have h430_ := iv_get hv (k := 105) (j := 5) (l := 0) (u := 10) rfl
  have h431_ := iv_get hv (k := 146) (j := 68) (l := 0) (u := 10) rfl
  refine jt_bif (Nat.ble_eq_true_of_le (by omega)) ?_
  have h432_ : jxw (y3 + 1) = y3 + 1 := jxw_id (by omega) (by omega)
  refine jt_grd (by omega) ?_
  refine jt_bif (Nat.ble_eq_true_of_le (by omega)) ?_
  have h433_ : jxw (y3 + 2) = y3 + 2 := jxw_id (by omega) (by omega)
  refine jt_grd (by omega) ?_
  refine jt_bI (sp_X11_arrive E d (jd_le hd rfl) (E.2 ((jxw (y3 + 1)).toNat)) (E.2 ((jxw (y3 + 2)).toNat)) a b hv) (fun r434_ a434_ b434_ h434_ => ?_)
  obtain ⟨hv434_, hf434_, rfl, hq434_0, hq434_1⟩ := h434_
  have h435_ := iv_get hv (k := 58) (j := 8) (l := 0) (u := 300) rfl
  refine jt_eq (bq_law_574 E d y3 a434_ b) ?_
  refine jt_bif (Nat.ble_eq_true_of_le (by omega)) ?_
  refine jt_grd (by omega) ?_
  refine jt_bif (Nat.ble_eq_true_of_le (by omega)) ?_
  refine jt_grd (by omega) ?_
  refine jt_bI (sp_X12_arrive E d (jd_le hd rfl) (E.2 ((jxw (y3 + 1)).toNat)) (E.2 ((jxw (y3 + 2)).toNat)) a434_ b hv434_) (fun r436_ a436_ b436_ h436_ => ?_)
  obtain ⟨hv436_, hf436_, rfl, hq436_0, hq436_1⟩ := h436_
  have h437_ := iv_get hv434_ (k := 146) (j := 9) (l := 0) (u := 300) rfl
  have h438_ : a434_ 146 9 = a 146 9 := hf434_ 146 9 rfl
  have h439_ := iv_get hv (k := 146) (j := 9) (l := 0) (u := 300) rfl
  have h440_ := iv_get hv436_ (k := 4) (j := 6) (l := 0) (u := 40) rfl
  have h441_ : a436_ 4 6 = a434_ 4 6 := hf436_ 4 6 rfl
  have h442_ := iv_get hv434_ (k := 4) (j := 6) (l := 0) (u := 40) rfl
  have h443_ : a434_ 4 6 = a 4 6 := hf434_ 4 6 rfl
  have h444_ := iv_get hv436_ (k := 146) (j := 2) (l := 0) (u := 40) rfl
  have h445_ : a436_ 146 2 = a434_ 146 2 := hf436_ 146 2 rfl
  have h446_ := iv_get hv434_ (k := 146) (j := 2) (l := 0) (u := 40) rfl
  have h447_ : a434_ 146 2 = a 146 2 := hf434_ 146 2 rfl
  have h448_ := iv_get hv436_ (k := 2) (j := 1) (l := 0) (u := 200) rfl
  have h449_ : a436_ 2 1 = a434_ 2 1 := hf436_ 2 1 rfl
  have h450_ := iv_get hv434_ (k := 2) (j := 1) (l := 0) (u := 200) rfl
  have h451_ : a434_ 2 1 = a 2 1 := hf434_ 2 1 rfl
  have h452_ := iv_get hv436_ (k := 146) (j := 22) (l := 0) (u := 200) rfl
  have h453_ : a436_ 146 22 = a434_ 146 22 := hf436_ 146 22 rfl
  have h454_ := iv_get hv434_ (k := 146) (j := 22) (l := 0) (u := 200) rfl
  have h455_ : a434_ 146 22 = a 146 22 := hf434_ 146 22 rfl
  have h456_ := iv_get hv436_ (k := 105) (j := 5) (l := 0) (u := 10) rfl
  have h457_ : a436_ 105 5 = a434_ 105 5 := hf436_ 105 5 rfl
  have h458_ := iv_get hv434_ (k := 105) (j := 5) (l := 0) (u := 10) rfl
  have h459_ : a434_ 105 5 = a 105 5 := hf434_ 105 5 rfl
  have h460_ := iv_get hv436_ (k := 146) (j := 68) (l := 0) (u := 10) rfl
  have h461_ : a436_ 146 68 = a434_ 146 68 := hf436_ 146 68 rfl
  have h462_ := iv_get hv434_ (k := 146) (j := 68) (l := 0) (u := 10) rfl
  have h463_ : a434_ 146 68 = a 146 68 := hf434_ 146 68 rfl
  exact hnext a436_ b hv436_ (WFW_fr (WFW_fr hg0 hf434_ (fun _ => rfl) (fun _ => rfl)) hf436_ (fun _ => rfl) (fun _ => rfl)) (SV_fr (SV_fr hg1 hf434_ (fun _ => rfl) (fun _ => rfl)) hf436_ (fun _ => rfl) (fun _ => rfl)) (OC_fr (OC_fr hg2 hf434_ rfl rfl (fun _ => rfl) (fun _ => rfl) (fun _ => rfl) (fun _ => rfl) (fun _ => rfl)) hf436_ rfl rfl (fun _ => rfl) (fun _ => rfl) (fun _ => rfl) (fun _ => rfl) (fun _ => rfl)) (FO_fr (FO_fr hg3 hf434_ rfl rfl (fun _ => rfl)) hf436_ rfl rfl (fun _ => rfl)) (FW_fr (FW_fr hg4 hf434_ rfl (fun _ => rfl)) hf436_ rfl (fun _ => rfl)) (TAPE_fr (TAPE_fr hg5 hf434_ (fun _ => rfl) (fun _ => rfl)) hf436_ (fun _ => rfl) (fun _ => rfl)) (show a436_ 4 6 = a436_ 146 2 from by omega) (show a436_ 2 1 = a436_ 146 22 from by omega) (show a436_ 105 5 = a436_ 146 68 from by omega)
theorem lw_op592 (E : jxE) (d : Nat) (hd : Nat.ble 60 (d + 1) = true) (hL : E.1 ≤ 3072) (y3 : Int) (hy0 : 0 ≤ y3) (hy1 : y3 + 6 ≤ E.1) (hnext : ∀ (a b : Nat → Nat → Int) (hv : iv a) (hg0 : WFW a) (hg1 : SV a) (hg2 : OC a) (hg3 : FO a) (hg4 : FW a) (hg5 : TAPE a) (hr0 : a 4 6 = a 146 2) (hr1 : a 2 1 = a 146 22) (hr2 : a 105 5 = a 146 68), jt (jxX E d 305 1189 [some (.inr (.inr (.inl 3000))), some (.inr (.inr (.inl 0))), some (.inr (.inr (.inl 146))), some (.inl y3)] [] (jxSH, a, b)) (fun v _ _ => v = [.inl 1])) (a b : Nat → Nat → Int) (hv : iv a) (hg0 : WFW a) (hg1 : SV a) (hg2 : OC a) (hg3 : FO a) (hg4 : FW a) (hg5 : TAPE a) (hr0 : a 4 6 = a 146 2) (hr1 : a 2 1 = a 146 22) (hr2 : a 105 5 = a 146 68) : jt (jxX E d 305 592 [some (.inr (.inr (.inl 3000))), some (.inr (.inr (.inl 0))), some (.inr (.inr (.inl 146))), some (.inl y3)] [] (jxSH, a, b)) (fun v _ _ => v = [.inl 1]) := by
  refine jt_eq (bq_law_592 E d y3 a b) ?_
  have h464_ := iv_get hv (k := 4) (j := 6) (l := 0) (u := 40) rfl
  have h465_ := iv_get hv (k := 146) (j := 2) (l := 0) (u := 40) rfl
  have h466_ := iv_get hv (k := 2) (j := 1) (l := 0) (u := 200) rfl
  have h467_ := iv_get hv (k := 146) (j := 22) (l := 0) (u := 200) rfl
  have h468_ := iv_get hv (k := 105) (j := 5) (l := 0) (u := 10) rfl
  have h469_ := iv_get hv (k := 146) (j := 68) (l := 0) (u := 10) rfl
  refine jt_bif (Nat.ble_eq_true_of_le (by omega)) ?_
  have h470_ : jxw (y3 + 1) = y3 + 1 := jxw_id (by omega) (by omega)
  refine jt_grd (by omega) ?_
  refine jt_bI (sp_X11_back E d (jd_le hd rfl) (E.2 ((jxw (y3 + 1)).toNat)) a b hv) (fun r471_ a471_ b471_ h471_ => ?_)
  obtain ⟨hv471_, hf471_, rfl, hq471_0, hq471_1⟩ := h471_
  have h472_ := iv_get hv (k := 58) (j := 8) (l := 0) (u := 300) rfl
  refine jt_eq (bq_law_602 E d y3 a471_ b) ?_
  refine jt_bif (Nat.ble_eq_true_of_le (by omega)) ?_
  refine jt_grd (by omega) ?_
  refine jt_bI (sp_X12_back E d (jd_le hd rfl) (E.2 ((jxw (y3 + 1)).toNat)) a471_ b hv471_) (fun r473_ a473_ b473_ h473_ => ?_)
  obtain ⟨hv473_, hf473_, rfl, hq473_0, hq473_1⟩ := h473_
  have h474_ := iv_get hv471_ (k := 146) (j := 9) (l := 0) (u := 300) rfl
  have h475_ : a471_ 146 9 = a 146 9 := hf471_ 146 9 rfl
  have h476_ := iv_get hv (k := 146) (j := 9) (l := 0) (u := 300) rfl
  have h477_ := iv_get hv473_ (k := 4) (j := 6) (l := 0) (u := 40) rfl
  have h478_ : a473_ 4 6 = a471_ 4 6 := hf473_ 4 6 rfl
  have h479_ := iv_get hv471_ (k := 4) (j := 6) (l := 0) (u := 40) rfl
  have h480_ : a471_ 4 6 = a 4 6 := hf471_ 4 6 rfl
  have h481_ := iv_get hv473_ (k := 146) (j := 2) (l := 0) (u := 40) rfl
  have h482_ : a473_ 146 2 = a471_ 146 2 := hf473_ 146 2 rfl
  have h483_ := iv_get hv471_ (k := 146) (j := 2) (l := 0) (u := 40) rfl
  have h484_ : a471_ 146 2 = a 146 2 := hf471_ 146 2 rfl
  have h485_ := iv_get hv473_ (k := 2) (j := 1) (l := 0) (u := 200) rfl
  have h486_ : a473_ 2 1 = a471_ 2 1 := hf473_ 2 1 rfl
  have h487_ := iv_get hv471_ (k := 2) (j := 1) (l := 0) (u := 200) rfl
  have h488_ : a471_ 2 1 = a 2 1 := hf471_ 2 1 rfl
  have h489_ := iv_get hv473_ (k := 146) (j := 22) (l := 0) (u := 200) rfl
  have h490_ : a473_ 146 22 = a471_ 146 22 := hf473_ 146 22 rfl
  have h491_ := iv_get hv471_ (k := 146) (j := 22) (l := 0) (u := 200) rfl
  have h492_ : a471_ 146 22 = a 146 22 := hf471_ 146 22 rfl
  have h493_ := iv_get hv473_ (k := 105) (j := 5) (l := 0) (u := 10) rfl
  have h494_ : a473_ 105 5 = a471_ 105 5 := hf473_ 105 5 rfl
  have h495_ := iv_get hv471_ (k := 105) (j := 5) (l := 0) (u := 10) rfl
  have h496_ : a471_ 105 5 = a 105 5 := hf471_ 105 5 rfl
  have h497_ := iv_get hv473_ (k := 146) (j := 68) (l := 0) (u := 10) rfl
  have h498_ : a473_ 146 68 = a471_ 146 68 := hf473_ 146 68 rfl
  have h499_ := iv_get hv471_ (k := 146) (j := 68) (l := 0) (u := 10) rfl
  have h500_ : a471_ 146 68 = a 146 68 := hf471_ 146 68 rfl
  exact hnext a473_ b hv473_ (WFW_fr (WFW_fr hg0 hf471_ (fun _ => rfl) (fun _ => rfl)) hf473_ (fun _ => rfl) (fun _ => rfl)) (SV_fr (SV_fr hg1 hf471_ (fun _ => rfl) (fun _ => rfl)) hf473_ (fun _ => rfl) (fun _ => rfl)) (OC_fr (OC_fr hg2 hf471_ rfl rfl (fun _ => rfl) (fun _ => rfl) (fun _ => rfl) (fun _ => rfl) (fun _ => rfl)) hf473_ rfl rfl (fun _ => rfl) (fun _ => rfl) (fun _ => rfl) (fun _ => rfl) (fun _ => rfl)) (FO_fr (FO_fr hg3 hf471_ rfl rfl (fun _ => rfl)) hf473_ rfl rfl (fun _ => rfl)) (FW_fr (FW_fr hg4 hf471_ rfl (fun _ => rfl)) hf473_ rfl (fun _ => rfl)) (TAPE_fr (TAPE_fr hg5 hf471_ (fun _ => rfl) (fun _ => rfl)) hf473_ (fun _ => rfl) (fun _ => rfl)) (show a473_ 4 6 = a473_ 146 2 from by omega) (show a473_ 2 1 = a473_ 146 22 from by omega) (show a473_ 105 5 = a473_ 146 68 from by omega)
theorem lw_op615 (E : jxE) (d : Nat) (hd : Nat.ble 60 (d + 1) = true) (hL : E.1 ≤ 3072) (y3 : Int) (hy0 : 0 ≤ y3) (hy1 : y3 + 6 ≤ E.1) (hnext : ∀ (a b : Nat → Nat → Int) (hv : iv a) (hg0 : WFW a) (hg1 : SV a) (hg2 : OC a) (hg3 : FO a) (hg4 : FW a) (hg5 : TAPE a) (hr0 : a 4 6 = a 146 2) (hr1 : a 2 1 = a 146 22) (hr2 : a 105 5 = a 146 68), jt (jxX E d 305 1189 [some (.inr (.inr (.inl 3000))), some (.inr (.inr (.inl 0))), some (.inr (.inr (.inl 146))), some (.inl y3)] [] (jxSH, a, b)) (fun v _ _ => v = [.inl 1])) (a b : Nat → Nat → Int) (hv : iv a) (hg0 : WFW a) (hg1 : SV a) (hg2 : OC a) (hg3 : FO a) (hg4 : FW a) (hg5 : TAPE a) (hr0 : a 4 6 = a 146 2) (hr1 : a 2 1 = a 146 22) (hr2 : a 105 5 = a 146 68) : jt (jxX E d 305 615 [some (.inr (.inr (.inl 3000))), some (.inr (.inr (.inl 0))), some (.inr (.inr (.inl 146))), some (.inl y3)] [] (jxSH, a, b)) (fun v _ _ => v = [.inl 1]) := by
  refine jt_eq (bq_law_615 E d y3 a b) ?_
  have h501_ := iv_get hv (k := 4) (j := 6) (l := 0) (u := 40) rfl
  have h502_ := iv_get hv (k := 146) (j := 2) (l := 0) (u := 40) rfl
  have h503_ := iv_get hv (k := 2) (j := 1) (l := 0) (u := 200) rfl
  have h504_ := iv_get hv (k := 146) (j := 22) (l := 0) (u := 200) rfl
  have h505_ := iv_get hv (k := 105) (j := 5) (l := 0) (u := 10) rfl
  have h506_ := iv_get hv (k := 146) (j := 68) (l := 0) (u := 10) rfl
  refine jt_bif (Nat.ble_eq_true_of_le (by omega)) ?_
  have h507_ : jxw (y3 + 1) = y3 + 1 := jxw_id (by omega) (by omega)
  refine jt_grd (by omega) ?_
  refine jt_bif (Nat.ble_eq_true_of_le (by omega)) ?_
  have h508_ : jxw (y3 + 2) = y3 + 2 := jxw_id (by omega) (by omega)
  refine jt_grd (by omega) ?_
  refine jt_eI (eq_X11_card E d (jd_le hd rfl) (E.2 ((jxw (y3 + 1)).toNat)) (E.2 ((jxw (y3 + 2)).toNat)) a b) ?_
  refine jt_eq (bq_law_630 E d y3 a b) ?_
  refine jt_bif (Nat.ble_eq_true_of_le (by omega)) ?_
  refine jt_grd (by omega) ?_
  refine jt_bif (Nat.ble_eq_true_of_le (by omega)) ?_
  refine jt_grd (by omega) ?_
  refine jt_bI (sp_X12_card E d (jd_le hd rfl) (E.2 ((jxw (y3 + 1)).toNat)) (E.2 ((jxw (y3 + 2)).toNat)) a b hv) (fun r509_ a509_ b509_ h509_ => ?_)
  obtain ⟨rfl, rfl, hq509_0⟩ := h509_
  have h510_ := iv_get hv (k := 146) (j := 9) (l := 0) (u := 300) rfl
  exact hnext a b hv hg0 hg1 hg2 hg3 hg4 hg5 (show a 4 6 = a 146 2 from by omega) (show a 2 1 = a 146 22 from by omega) (show a 105 5 = a 146 68 from by omega)
theorem lw_op648 (E : jxE) (d : Nat) (hd : Nat.ble 60 (d + 1) = true) (hL : E.1 ≤ 3072) (y3 : Int) (hy0 : 0 ≤ y3) (hy1 : y3 + 6 ≤ E.1) (hnext : ∀ (a b : Nat → Nat → Int) (hv : iv a) (hg0 : WFW a) (hg1 : SV a) (hg2 : OC a) (hg3 : FO a) (hg4 : FW a) (hg5 : TAPE a) (hr0 : a 4 6 = a 146 2) (hr1 : a 2 1 = a 146 22) (hr2 : a 105 5 = a 146 68), jt (jxX E d 305 1189 [some (.inr (.inr (.inl 3000))), some (.inr (.inr (.inl 0))), some (.inr (.inr (.inl 146))), some (.inl y3)] [] (jxSH, a, b)) (fun v _ _ => v = [.inl 1])) (a b : Nat → Nat → Int) (hv : iv a) (hg0 : WFW a) (hg1 : SV a) (hg2 : OC a) (hg3 : FO a) (hg4 : FW a) (hg5 : TAPE a) (hr0 : a 4 6 = a 146 2) (hr1 : a 2 1 = a 146 22) (hr2 : a 105 5 = a 146 68) : jt (jxX E d 305 648 [some (.inr (.inr (.inl 3000))), some (.inr (.inr (.inl 0))), some (.inr (.inr (.inl 146))), some (.inl y3)] [] (jxSH, a, b)) (fun v _ _ => v = [.inl 1]) := by
  refine jt_eq (bq_law_648 E d y3 a b) ?_
  have h511_ := iv_get hv (k := 4) (j := 6) (l := 0) (u := 40) rfl
  have h512_ := iv_get hv (k := 146) (j := 2) (l := 0) (u := 40) rfl
  have h513_ := iv_get hv (k := 2) (j := 1) (l := 0) (u := 200) rfl
  have h514_ := iv_get hv (k := 146) (j := 22) (l := 0) (u := 200) rfl
  have h515_ := iv_get hv (k := 105) (j := 5) (l := 0) (u := 10) rfl
  have h516_ := iv_get hv (k := 146) (j := 68) (l := 0) (u := 10) rfl
  refine jt_bif (Nat.ble_eq_true_of_le (by omega)) ?_
  have h517_ : jxw (y3 + 1) = y3 + 1 := jxw_id (by omega) (by omega)
  refine jt_grd (by omega) ?_
  refine jt_bif (Nat.ble_eq_true_of_le (by omega)) ?_
  have h518_ : jxw (y3 + 2) = y3 + 2 := jxw_id (by omega) (by omega)
  refine jt_grd (by omega) ?_
  refine jt_bif (Nat.ble_eq_true_of_le (by omega)) ?_
  have h519_ : jxw (y3 + 3) = y3 + 3 := jxw_id (by omega) (by omega)
  refine jt_grd (by omega) ?_
  refine jt_bI (sp_X11_state E d (jd_le hd rfl) (E.2 ((jxw (y3 + 1)).toNat)) (E.2 ((jxw (y3 + 2)).toNat)) (E.2 ((jxw (y3 + 3)).toNat)) a b hv) (fun r520_ a520_ b520_ h520_ => ?_)
  obtain ⟨rfl, rfl, hq520_0⟩ := h520_
  have h521_ := iv_get hv (k := 58) (j := 8) (l := 0) (u := 300) rfl
  refine jt_eq (bq_law_668 E d y3 a b) ?_
  refine jt_bif (Nat.ble_eq_true_of_le (by omega)) ?_
  refine jt_grd (by omega) ?_
  refine jt_bif (Nat.ble_eq_true_of_le (by omega)) ?_
  refine jt_grd (by omega) ?_
  refine jt_bif (Nat.ble_eq_true_of_le (by omega)) ?_
  refine jt_grd (by omega) ?_
  refine jt_bI (sp_X12_state E d (jd_le hd rfl) (E.2 ((jxw (y3 + 1)).toNat)) (E.2 ((jxw (y3 + 2)).toNat)) (E.2 ((jxw (y3 + 3)).toNat)) a b hv) (fun r522_ a522_ b522_ h522_ => ?_)
  obtain ⟨rfl, rfl, hq522_0⟩ := h522_
  have h523_ := iv_get hv (k := 146) (j := 9) (l := 0) (u := 300) rfl
  refine jt_eq (bq_law_688 E d y3 a b) ?_
  exact hnext a b hv hg0 hg1 hg2 hg3 hg4 hg5 (show a 4 6 = a 146 2 from by omega) (show a 2 1 = a 146 22 from by omega) (show a 105 5 = a 146 68 from by omega)
theorem lw_op691 (E : jxE) (d : Nat) (hd : Nat.ble 60 (d + 1) = true) (hL : E.1 ≤ 3072) (y3 : Int) (hy0 : 0 ≤ y3) (hy1 : y3 + 6 ≤ E.1) (hnext : ∀ (a b : Nat → Nat → Int) (hv : iv a) (hg0 : WFW a) (hg1 : SV a) (hg2 : OC a) (hg3 : FO a) (hg4 : FW a) (hg5 : TAPE a) (hr0 : a 4 6 = a 146 2) (hr1 : a 2 1 = a 146 22) (hr2 : a 105 5 = a 146 68), jt (jxX E d 305 1189 [some (.inr (.inr (.inl 3000))), some (.inr (.inr (.inl 0))), some (.inr (.inr (.inl 146))), some (.inl y3)] [] (jxSH, a, b)) (fun v _ _ => v = [.inl 1])) (a b : Nat → Nat → Int) (hv : iv a) (hg0 : WFW a) (hg1 : SV a) (hg2 : OC a) (hg3 : FO a) (hg4 : FW a) (hg5 : TAPE a) (hr0 : a 4 6 = a 146 2) (hr1 : a 2 1 = a 146 22) (hr2 : a 105 5 = a 146 68) : jt (jxX E d 305 691 [some (.inr (.inr (.inl 3000))), some (.inr (.inr (.inl 0))), some (.inr (.inr (.inl 146))), some (.inl y3)] [] (jxSH, a, b)) (fun v _ _ => v = [.inl 1]) := by
  refine jt_eq (bq_law_691 E d y3 a b) ?_
  have h524_ := iv_get hv (k := 4) (j := 6) (l := 0) (u := 40) rfl
  have h525_ := iv_get hv (k := 146) (j := 2) (l := 0) (u := 40) rfl
  have h526_ := iv_get hv (k := 2) (j := 1) (l := 0) (u := 200) rfl
  have h527_ := iv_get hv (k := 146) (j := 22) (l := 0) (u := 200) rfl
  have h528_ := iv_get hv (k := 105) (j := 5) (l := 0) (u := 10) rfl
  have h529_ := iv_get hv (k := 146) (j := 68) (l := 0) (u := 10) rfl
  refine jt_bif (Nat.ble_eq_true_of_le (by omega)) ?_
  have h530_ : jxw (y3 + 1) = y3 + 1 := jxw_id (by omega) (by omega)
  refine jt_grd (by omega) ?_
  refine jt_bif (Nat.ble_eq_true_of_le (by omega)) ?_
  have h531_ : jxw (y3 + 2) = y3 + 2 := jxw_id (by omega) (by omega)
  refine jt_grd (by omega) ?_
  refine jt_bI (sp_X11_about E d (jd_le hd rfl) (E.2 ((jxw (y3 + 1)).toNat)) (E.2 ((jxw (y3 + 2)).toNat)) a b hv) (fun r532_ a532_ b532_ h532_ => ?_)
  obtain ⟨hv532_, hf532_, rfl, hq532_0⟩ := h532_
  refine jt_eq (bq_law_706 E d y3 a532_ b) ?_
  refine jt_bif (Nat.ble_eq_true_of_le (by omega)) ?_
  refine jt_grd (by omega) ?_
  refine jt_bif (Nat.ble_eq_true_of_le (by omega)) ?_
  refine jt_grd (by omega) ?_
  refine jt_bI (sp_X12_about E d (jd_le hd rfl) (E.2 ((jxw (y3 + 1)).toNat)) (E.2 ((jxw (y3 + 2)).toNat)) a532_ b hv532_) (fun r533_ a533_ b533_ h533_ => ?_)
  obtain ⟨rfl, rfl, hq533_0⟩ := h533_
  have h534_ := iv_get hv532_ (k := 146) (j := 2) (l := 0) (u := 40) rfl
  have h535_ : a532_ 146 2 = a 146 2 := hf532_ 146 2 rfl
  have h536_ := iv_get hv532_ (k := 4) (j := 6) (l := 0) (u := 40) rfl
  have h537_ : a532_ 4 6 = a 4 6 := hf532_ 4 6 rfl
  have h538_ := iv_get hv532_ (k := 2) (j := 1) (l := 0) (u := 200) rfl
  have h539_ : a532_ 2 1 = a 2 1 := hf532_ 2 1 rfl
  have h540_ := iv_get hv532_ (k := 146) (j := 22) (l := 0) (u := 200) rfl
  have h541_ : a532_ 146 22 = a 146 22 := hf532_ 146 22 rfl
  have h542_ := iv_get hv532_ (k := 105) (j := 5) (l := 0) (u := 10) rfl
  have h543_ : a532_ 105 5 = a 105 5 := hf532_ 105 5 rfl
  have h544_ := iv_get hv532_ (k := 146) (j := 68) (l := 0) (u := 10) rfl
  have h545_ : a532_ 146 68 = a 146 68 := hf532_ 146 68 rfl
  exact hnext a532_ b hv532_ (WFW_fr hg0 hf532_ (fun _ => rfl) (fun _ => rfl)) (SV_fr hg1 hf532_ (fun _ => rfl) (fun _ => rfl)) (OC_fr hg2 hf532_ rfl rfl (fun _ => rfl) (fun _ => rfl) (fun _ => rfl) (fun _ => rfl) (fun _ => rfl)) (FO_fr hg3 hf532_ rfl rfl (fun _ => rfl)) (FW_fr hg4 hf532_ rfl (fun _ => rfl)) (TAPE_fr hg5 hf532_ (fun _ => rfl) (fun _ => rfl)) (show a532_ 4 6 = a532_ 146 2 from by omega) (show a532_ 2 1 = a532_ 146 22 from by omega) (show a532_ 105 5 = a532_ 146 68 from by omega)
theorem lw_op724 (E : jxE) (d : Nat) (hd : Nat.ble 60 (d + 1) = true) (hL : E.1 ≤ 3072) (y3 : Int) (hy0 : 0 ≤ y3) (hy1 : y3 + 6 ≤ E.1) (hnext : ∀ (a b : Nat → Nat → Int) (hv : iv a) (hg0 : WFW a) (hg1 : SV a) (hg2 : OC a) (hg3 : FO a) (hg4 : FW a) (hg5 : TAPE a) (hr0 : a 4 6 = a 146 2) (hr1 : a 2 1 = a 146 22) (hr2 : a 105 5 = a 146 68), jt (jxX E d 305 1189 [some (.inr (.inr (.inl 3000))), some (.inr (.inr (.inl 0))), some (.inr (.inr (.inl 146))), some (.inl y3)] [] (jxSH, a, b)) (fun v _ _ => v = [.inl 1])) (a b : Nat → Nat → Int) (hv : iv a) (hg0 : WFW a) (hg1 : SV a) (hg2 : OC a) (hg3 : FO a) (hg4 : FW a) (hg5 : TAPE a) (hr0 : a 4 6 = a 146 2) (hr1 : a 2 1 = a 146 22) (hr2 : a 105 5 = a 146 68) : jt (jxX E d 305 724 [some (.inr (.inr (.inl 3000))), some (.inr (.inr (.inl 0))), some (.inr (.inr (.inl 146))), some (.inl y3)] [] (jxSH, a, b)) (fun v _ _ => v = [.inl 1]) := by
  refine jt_eq (bq_law_724 E d y3 a b) ?_
  have h546_ := iv_get hv (k := 4) (j := 6) (l := 0) (u := 40) rfl
  have h547_ := iv_get hv (k := 146) (j := 2) (l := 0) (u := 40) rfl
  have h548_ := iv_get hv (k := 2) (j := 1) (l := 0) (u := 200) rfl
  have h549_ := iv_get hv (k := 146) (j := 22) (l := 0) (u := 200) rfl
  have h550_ := iv_get hv (k := 105) (j := 5) (l := 0) (u := 10) rfl
  have h551_ := iv_get hv (k := 146) (j := 68) (l := 0) (u := 10) rfl
  refine jt_bif (Nat.ble_eq_true_of_le (by omega)) ?_
  have h552_ : jxw (y3 + 1) = y3 + 1 := jxw_id (by omega) (by omega)
  refine jt_grd (by omega) ?_
  refine jt_bI (sp_X11_album E d (jd_le hd rfl) (E.2 ((jxw (y3 + 1)).toNat)) a b hv) (fun r553_ a553_ b553_ h553_ => ?_)
  obtain ⟨rfl, rfl, hq553_0⟩ := h553_
  refine jt_eq (bq_law_734 E d y3 a b) ?_
  refine jt_bif (Nat.ble_eq_true_of_le (by omega)) ?_
  refine jt_grd (by omega) ?_
  refine jt_bI (sp_X12_album E d (jd_le hd rfl) (E.2 ((jxw (y3 + 1)).toNat)) a b hv) (fun r554_ a554_ b554_ h554_ => ?_)
  obtain ⟨rfl, rfl, hq554_0⟩ := h554_
  exact hnext a b hv hg0 hg1 hg2 hg3 hg4 hg5 (show a 4 6 = a 146 2 from by omega) (show a 2 1 = a 146 22 from by omega) (show a 105 5 = a 146 68 from by omega)
theorem lw_op747 (E : jxE) (d : Nat) (hd : Nat.ble 60 (d + 1) = true) (hL : E.1 ≤ 3072) (y3 : Int) (hy0 : 0 ≤ y3) (hy1 : y3 + 6 ≤ E.1) (hnext : ∀ (a b : Nat → Nat → Int) (hv : iv a) (hg0 : WFW a) (hg1 : SV a) (hg2 : OC a) (hg3 : FO a) (hg4 : FW a) (hg5 : TAPE a) (hr0 : a 4 6 = a 146 2) (hr1 : a 2 1 = a 146 22) (hr2 : a 105 5 = a 146 68), jt (jxX E d 305 1189 [some (.inr (.inr (.inl 3000))), some (.inr (.inr (.inl 0))), some (.inr (.inr (.inl 146))), some (.inl y3)] [] (jxSH, a, b)) (fun v _ _ => v = [.inl 1])) (a b : Nat → Nat → Int) (hv : iv a) (hg0 : WFW a) (hg1 : SV a) (hg2 : OC a) (hg3 : FO a) (hg4 : FW a) (hg5 : TAPE a) (hr0 : a 4 6 = a 146 2) (hr1 : a 2 1 = a 146 22) (hr2 : a 105 5 = a 146 68) : jt (jxX E d 305 747 [some (.inr (.inr (.inl 3000))), some (.inr (.inr (.inl 0))), some (.inr (.inr (.inl 146))), some (.inl y3)] [] (jxSH, a, b)) (fun v _ _ => v = [.inl 1]) := by
  refine jt_eq (bq_law_747 E d y3 a b) ?_
  have h555_ := iv_get hv (k := 4) (j := 6) (l := 0) (u := 40) rfl
  have h556_ := iv_get hv (k := 146) (j := 2) (l := 0) (u := 40) rfl
  have h557_ := iv_get hv (k := 2) (j := 1) (l := 0) (u := 200) rfl
  have h558_ := iv_get hv (k := 146) (j := 22) (l := 0) (u := 200) rfl
  have h559_ := iv_get hv (k := 105) (j := 5) (l := 0) (u := 10) rfl
  have h560_ := iv_get hv (k := 146) (j := 68) (l := 0) (u := 10) rfl
  refine jt_bif (Nat.ble_eq_true_of_le (by omega)) ?_
  have h561_ : jxw (y3 + 1) = y3 + 1 := jxw_id (by omega) (by omega)
  refine jt_grd (by omega) ?_
  refine jt_bif (Nat.ble_eq_true_of_le (by omega)) ?_
  have h562_ : jxw (y3 + 2) = y3 + 2 := jxw_id (by omega) (by omega)
  refine jt_grd (by omega) ?_
  refine jt_bif (Nat.ble_eq_true_of_le (by omega)) ?_
  have h563_ : jxw (y3 + 3) = y3 + 3 := jxw_id (by omega) (by omega)
  refine jt_grd (by omega) ?_
  refine jt_bI (sp_X11_span E d (jd_le hd rfl) (E.2 ((jxw (y3 + 1)).toNat)) (E.2 ((jxw (y3 + 2)).toNat)) (E.2 ((jxw (y3 + 3)).toNat)) a b hv) (fun r564_ a564_ b564_ h564_ => ?_)
  obtain ⟨hv564_, hf564_, rfl, hq564_0⟩ := h564_
  have h565_ := iv_get hv (k := 58) (j := 12) (l := 0) (u := 600) rfl
  refine jt_eq (bq_law_767 E d y3 a564_ b) ?_
  refine jt_bif (Nat.ble_eq_true_of_le (by omega)) ?_
  refine jt_grd (by omega) ?_
  refine jt_bif (Nat.ble_eq_true_of_le (by omega)) ?_
  refine jt_grd (by omega) ?_
  refine jt_bif (Nat.ble_eq_true_of_le (by omega)) ?_
  refine jt_grd (by omega) ?_
  refine jt_bI (sp_X12_span E d (jd_le hd rfl) (E.2 ((jxw (y3 + 1)).toNat)) (E.2 ((jxw (y3 + 2)).toNat)) (E.2 ((jxw (y3 + 3)).toNat)) a564_ b hv564_) (fun r566_ a566_ b566_ h566_ => ?_)
  obtain ⟨hv566_, hf566_, rfl, hq566_0⟩ := h566_
  have h567_ := iv_get hv564_ (k := 146) (j := 17) (l := 0) (u := 600) rfl
  have h568_ : a564_ 146 17 = a 146 17 := hf564_ 146 17 rfl
  have h569_ := iv_get hv (k := 146) (j := 17) (l := 0) (u := 600) rfl
  refine jt_eq (bq_law_787 E d y3 a566_ b) ?_
  have h570_ := iv_get hv566_ (k := 4) (j := 6) (l := 0) (u := 40) rfl
  have h571_ : a566_ 4 6 = a564_ 4 6 := hf566_ 4 6 rfl
  have h572_ := iv_get hv564_ (k := 4) (j := 6) (l := 0) (u := 40) rfl
  have h573_ : a564_ 4 6 = a 4 6 := hf564_ 4 6 rfl
  have h574_ := iv_get hv566_ (k := 146) (j := 2) (l := 0) (u := 40) rfl
  have h575_ : a566_ 146 2 = a564_ 146 2 := hf566_ 146 2 rfl
  have h576_ := iv_get hv564_ (k := 146) (j := 2) (l := 0) (u := 40) rfl
  have h577_ : a564_ 146 2 = a 146 2 := hf564_ 146 2 rfl
  have h578_ := iv_get hv566_ (k := 2) (j := 1) (l := 0) (u := 200) rfl
  have h579_ : a566_ 2 1 = a564_ 2 1 := hf566_ 2 1 rfl
  have h580_ := iv_get hv564_ (k := 2) (j := 1) (l := 0) (u := 200) rfl
  have h581_ : a564_ 2 1 = a 2 1 := hf564_ 2 1 rfl
  have h582_ := iv_get hv566_ (k := 146) (j := 22) (l := 0) (u := 200) rfl
  have h583_ : a566_ 146 22 = a564_ 146 22 := hf566_ 146 22 rfl
  have h584_ := iv_get hv564_ (k := 146) (j := 22) (l := 0) (u := 200) rfl
  have h585_ : a564_ 146 22 = a 146 22 := hf564_ 146 22 rfl
  have h586_ := iv_get hv566_ (k := 105) (j := 5) (l := 0) (u := 10) rfl
  have h587_ : a566_ 105 5 = a564_ 105 5 := hf566_ 105 5 rfl
  have h588_ := iv_get hv564_ (k := 105) (j := 5) (l := 0) (u := 10) rfl
  have h589_ : a564_ 105 5 = a 105 5 := hf564_ 105 5 rfl
  have h590_ := iv_get hv566_ (k := 146) (j := 68) (l := 0) (u := 10) rfl
  have h591_ : a566_ 146 68 = a564_ 146 68 := hf566_ 146 68 rfl
  have h592_ := iv_get hv564_ (k := 146) (j := 68) (l := 0) (u := 10) rfl
  have h593_ : a564_ 146 68 = a 146 68 := hf564_ 146 68 rfl
  exact hnext a566_ b hv566_ (WFW_fr (WFW_fr hg0 hf564_ (fun _ => rfl) (fun _ => rfl)) hf566_ (fun _ => rfl) (fun _ => rfl)) (SV_fr (SV_fr hg1 hf564_ (fun _ => rfl) (fun _ => rfl)) hf566_ (fun _ => rfl) (fun _ => rfl)) (OC_fr (OC_fr hg2 hf564_ rfl rfl (fun _ => rfl) (fun _ => rfl) (fun _ => rfl) (fun _ => rfl) (fun _ => rfl)) hf566_ rfl rfl (fun _ => rfl) (fun _ => rfl) (fun _ => rfl) (fun _ => rfl) (fun _ => rfl)) (FO_fr (FO_fr hg3 hf564_ rfl rfl (fun _ => rfl)) hf566_ rfl rfl (fun _ => rfl)) (FW_fr (FW_fr hg4 hf564_ rfl (fun _ => rfl)) hf566_ rfl (fun _ => rfl)) (TAPE_fr (TAPE_fr hg5 hf564_ (fun _ => rfl) (fun _ => rfl)) hf566_ (fun _ => rfl) (fun _ => rfl)) (show a566_ 4 6 = a566_ 146 2 from by omega) (show a566_ 2 1 = a566_ 146 22 from by omega) (show a566_ 105 5 = a566_ 146 68 from by omega)
theorem lw_op790 (E : jxE) (d : Nat) (hd : Nat.ble 60 (d + 1) = true) (hL : E.1 ≤ 3072) (y3 : Int) (hy0 : 0 ≤ y3) (hy1 : y3 + 6 ≤ E.1) (hnext : ∀ (a b : Nat → Nat → Int) (hv : iv a) (hg0 : WFW a) (hg1 : SV a) (hg2 : OC a) (hg3 : FO a) (hg4 : FW a) (hg5 : TAPE a) (hr0 : a 4 6 = a 146 2) (hr1 : a 2 1 = a 146 22) (hr2 : a 105 5 = a 146 68), jt (jxX E d 305 1189 [some (.inr (.inr (.inl 3000))), some (.inr (.inr (.inl 0))), some (.inr (.inr (.inl 146))), some (.inl y3)] [] (jxSH, a, b)) (fun v _ _ => v = [.inl 1])) (a b : Nat → Nat → Int) (hv : iv a) (hg0 : WFW a) (hg1 : SV a) (hg2 : OC a) (hg3 : FO a) (hg4 : FW a) (hg5 : TAPE a) (hr0 : a 4 6 = a 146 2) (hr1 : a 2 1 = a 146 22) (hr2 : a 105 5 = a 146 68) : jt (jxX E d 305 790 [some (.inr (.inr (.inl 3000))), some (.inr (.inr (.inl 0))), some (.inr (.inr (.inl 146))), some (.inl y3)] [] (jxSH, a, b)) (fun v _ _ => v = [.inl 1]) := by
  refine jt_eq (bq_law_790 E d y3 a b) ?_
  have h594_ := iv_get hv (k := 4) (j := 6) (l := 0) (u := 40) rfl
  have h595_ := iv_get hv (k := 146) (j := 2) (l := 0) (u := 40) rfl
  have h596_ := iv_get hv (k := 2) (j := 1) (l := 0) (u := 200) rfl
  have h597_ := iv_get hv (k := 146) (j := 22) (l := 0) (u := 200) rfl
  have h598_ := iv_get hv (k := 105) (j := 5) (l := 0) (u := 10) rfl
  have h599_ := iv_get hv (k := 146) (j := 68) (l := 0) (u := 10) rfl
  refine jt_bif (Nat.ble_eq_true_of_le (by omega)) ?_
  have h600_ : jxw (y3 + 1) = y3 + 1 := jxw_id (by omega) (by omega)
  refine jt_grd (by omega) ?_
  refine jt_bif (Nat.ble_eq_true_of_le (by omega)) ?_
  have h601_ : jxw (y3 + 2) = y3 + 2 := jxw_id (by omega) (by omega)
  refine jt_grd (by omega) ?_
  refine jt_bif (Nat.ble_eq_true_of_le (by omega)) ?_
  have h602_ : jxw (y3 + 3) = y3 + 3 := jxw_id (by omega) (by omega)
  refine jt_grd (by omega) ?_
  refine jt_bI (sp_X11_offer E d (jd_le hd rfl) (E.2 ((jxw (y3 + 1)).toNat)) (E.2 ((jxw (y3 + 2)).toNat)) (E.2 ((jxw (y3 + 3)).toNat)) a b hv) (fun r603_ a603_ b603_ h603_ => ?_)
  obtain ⟨hv603_, hf603_, rfl, hq603_0, hq603_1⟩ := h603_
  have h604_ := iv_get hv (k := 83) (j := 6) (l := 0) (u := 20) rfl
  have h605_ := iv_get hv603_ (k := 83) (j := 6) (l := 0) (u := 20) rfl
  refine jt_eq (bq_law_810 E d y3 a603_ b) ?_
  refine jt_bif (Nat.ble_eq_true_of_le (by omega)) ?_
  refine jt_grd (by omega) ?_
  refine jt_bif (Nat.ble_eq_true_of_le (by omega)) ?_
  refine jt_grd (by omega) ?_
  refine jt_bif (Nat.ble_eq_true_of_le (by omega)) ?_
  refine jt_grd (by omega) ?_
  refine jt_bI (sp_X12_offer E d (jd_le hd rfl) (E.2 ((jxw (y3 + 1)).toNat)) (E.2 ((jxw (y3 + 2)).toNat)) (E.2 ((jxw (y3 + 3)).toNat)) a603_ b hv603_ (OC_fr hg2 hf603_ rfl rfl (fun _ => rfl) (fun _ => rfl) (fun _ => rfl) (fun _ => rfl) (fun _ => rfl)) (FO_fr hg3 hf603_ rfl rfl (fun _ => rfl)) (FW_fr hg4 hf603_ rfl (fun _ => rfl))) (fun r606_ a606_ b606_ h606_ => ?_)
  obtain ⟨hv606_, hf606_, rfl, hq606_0, hq606_1, hq606_2, hq606_3, hq606_4⟩ := h606_
  have h607_ := iv_get hv603_ (k := 146) (j := 2) (l := 0) (u := 40) rfl
  have h608_ : a603_ 146 2 = a 146 2 := hf603_ 146 2 rfl
  have h609_ := iv_get hv603_ (k := 152) (j := (E.2 ((jxw (y3 + 1)).toNat)).toNat) (l := 0) (u := 1) rfl
  have h610_ : a603_ 152 ((E.2 ((jxw (y3 + 1)).toNat)).toNat) = a 152 ((E.2 ((jxw (y3 + 1)).toNat)).toNat) := hf603_ 152 ((E.2 ((jxw (y3 + 1)).toNat)).toNat) rfl
  have h611_ := iv_get hv (k := 152) (j := (E.2 ((jxw (y3 + 1)).toNat)).toNat) (l := 0) (u := 1) rfl
  have h612_ := iv_get hv603_ (k := 146) (j := 49) (l := 0) (u := 20) rfl
  have h613_ : a603_ 146 49 = a 146 49 := hf603_ 146 49 rfl
  have h614_ := iv_get hv (k := 146) (j := 49) (l := 0) (u := 20) rfl
  have h615_ := iv_get hv606_ (k := 146) (j := 49) (l := 0) (u := 20) rfl
  refine jt_eq (bq_law_830 E d y3 a606_ b) ?_
  have h616_ := iv_get hv606_ (k := 4) (j := 6) (l := 0) (u := 40) rfl
  have h617_ : a606_ 4 6 = a603_ 4 6 := hf606_ 4 6 rfl
  have h618_ := iv_get hv603_ (k := 4) (j := 6) (l := 0) (u := 40) rfl
  have h619_ : a603_ 4 6 = a 4 6 := hf603_ 4 6 rfl
  have h620_ := iv_get hv606_ (k := 146) (j := 2) (l := 0) (u := 40) rfl
  have h621_ : a606_ 146 2 = a603_ 146 2 := hf606_ 146 2 rfl
  have h622_ := iv_get hv606_ (k := 2) (j := 1) (l := 0) (u := 200) rfl
  have h623_ : a606_ 2 1 = a603_ 2 1 := hf606_ 2 1 rfl
  have h624_ := iv_get hv603_ (k := 2) (j := 1) (l := 0) (u := 200) rfl
  have h625_ : a603_ 2 1 = a 2 1 := hf603_ 2 1 rfl
  have h626_ := iv_get hv606_ (k := 146) (j := 22) (l := 0) (u := 200) rfl
  have h627_ : a606_ 146 22 = a603_ 146 22 := hf606_ 146 22 rfl
  have h628_ := iv_get hv603_ (k := 146) (j := 22) (l := 0) (u := 200) rfl
  have h629_ : a603_ 146 22 = a 146 22 := hf603_ 146 22 rfl
  have h630_ := iv_get hv606_ (k := 105) (j := 5) (l := 0) (u := 10) rfl
  have h631_ : a606_ 105 5 = a603_ 105 5 := hf606_ 105 5 rfl
  have h632_ := iv_get hv603_ (k := 105) (j := 5) (l := 0) (u := 10) rfl
  have h633_ : a603_ 105 5 = a 105 5 := hf603_ 105 5 rfl
  have h634_ := iv_get hv606_ (k := 146) (j := 68) (l := 0) (u := 10) rfl
  have h635_ : a606_ 146 68 = a603_ 146 68 := hf606_ 146 68 rfl
  have h636_ := iv_get hv603_ (k := 146) (j := 68) (l := 0) (u := 10) rfl
  have h637_ : a603_ 146 68 = a 146 68 := hf603_ 146 68 rfl
  exact hnext a606_ b hv606_ (WFW_fr (WFW_fr hg0 hf603_ (fun _ => rfl) (fun _ => rfl)) hf606_ (fun _ => rfl) (fun _ => rfl)) (SV_fr (SV_fr hg1 hf603_ (fun _ => rfl) (fun _ => rfl)) hf606_ (fun _ => rfl) (fun _ => rfl)) hq606_0 hq606_1 hq606_2 (TAPE_fr (TAPE_fr hg5 hf603_ (fun _ => rfl) (fun _ => rfl)) hf606_ (fun _ => rfl) (fun _ => rfl)) (show a606_ 4 6 = a606_ 146 2 from by omega) (show a606_ 2 1 = a606_ 146 22 from by omega) (show a606_ 105 5 = a606_ 146 68 from by omega)
theorem lw_op833 (E : jxE) (d : Nat) (hd : Nat.ble 60 (d + 1) = true) (hL : E.1 ≤ 3072) (y3 : Int) (hy0 : 0 ≤ y3) (hy1 : y3 + 6 ≤ E.1) (hnext : ∀ (a b : Nat → Nat → Int) (hv : iv a) (hg0 : WFW a) (hg1 : SV a) (hg2 : OC a) (hg3 : FO a) (hg4 : FW a) (hg5 : TAPE a) (hr0 : a 4 6 = a 146 2) (hr1 : a 2 1 = a 146 22) (hr2 : a 105 5 = a 146 68), jt (jxX E d 305 1189 [some (.inr (.inr (.inl 3000))), some (.inr (.inr (.inl 0))), some (.inr (.inr (.inl 146))), some (.inl y3)] [] (jxSH, a, b)) (fun v _ _ => v = [.inl 1])) (a b : Nat → Nat → Int) (hv : iv a) (hg0 : WFW a) (hg1 : SV a) (hg2 : OC a) (hg3 : FO a) (hg4 : FW a) (hg5 : TAPE a) (hr0 : a 4 6 = a 146 2) (hr1 : a 2 1 = a 146 22) (hr2 : a 105 5 = a 146 68) : jt (jxX E d 305 833 [some (.inr (.inr (.inl 3000))), some (.inr (.inr (.inl 0))), some (.inr (.inr (.inl 146))), some (.inl y3)] [] (jxSH, a, b)) (fun v _ _ => v = [.inl 1]) := by
  refine jt_eq (bq_law_833 E d y3 a b) ?_
  have h638_ := iv_get hv (k := 4) (j := 6) (l := 0) (u := 40) rfl
  have h639_ := iv_get hv (k := 146) (j := 2) (l := 0) (u := 40) rfl
  have h640_ := iv_get hv (k := 2) (j := 1) (l := 0) (u := 200) rfl
  have h641_ := iv_get hv (k := 146) (j := 22) (l := 0) (u := 200) rfl
  have h642_ := iv_get hv (k := 105) (j := 5) (l := 0) (u := 10) rfl
  have h643_ := iv_get hv (k := 146) (j := 68) (l := 0) (u := 10) rfl
  refine jt_bif (Nat.ble_eq_true_of_le (by omega)) ?_
  have h644_ : jxw (y3 + 1) = y3 + 1 := jxw_id (by omega) (by omega)
  refine jt_grd (by omega) ?_
  refine jt_bI (sp_X11_away E d (jd_le hd rfl) (E.2 ((jxw (y3 + 1)).toNat)) a b hv) (fun r645_ a645_ b645_ h645_ => ?_)
  obtain ⟨hv645_, hf645_, rfl, hq645_0, hq645_1⟩ := h645_
  have h646_ := iv_get hv (k := 83) (j := 6) (l := 0) (u := 20) rfl
  refine jt_eq (bq_law_843 E d y3 a645_ b) ?_
  refine jt_bif (Nat.ble_eq_true_of_le (by omega)) ?_
  refine jt_grd (by omega) ?_
  refine jt_bI (sp_X12_away E d (jd_le hd rfl) (E.2 ((jxw (y3 + 1)).toNat)) a645_ b hv645_ (OC_fr hg2 hf645_ rfl rfl (fun _ => rfl) (fun _ => rfl) (fun _ => rfl) (fun _ => rfl) (fun _ => rfl))) (fun r647_ a647_ b647_ h647_ => ?_)
  obtain ⟨hv647_, hf647_, rfl, hq647_0, hq647_1, hq647_2⟩ := h647_
  have h648_ := iv_get hv645_ (k := 146) (j := 49) (l := 0) (u := 20) rfl
  have h649_ : a645_ 146 49 = a 146 49 := hf645_ 146 49 rfl
  have h650_ := iv_get hv (k := 146) (j := 49) (l := 0) (u := 20) rfl
  have h651_ := iv_get hv647_ (k := 4) (j := 6) (l := 0) (u := 40) rfl
  have h652_ : a647_ 4 6 = a645_ 4 6 := hf647_ 4 6 rfl
  have h653_ := iv_get hv645_ (k := 4) (j := 6) (l := 0) (u := 40) rfl
  have h654_ : a645_ 4 6 = a 4 6 := hf645_ 4 6 rfl
  have h655_ := iv_get hv647_ (k := 146) (j := 2) (l := 0) (u := 40) rfl
  have h656_ : a647_ 146 2 = a645_ 146 2 := hf647_ 146 2 rfl
  have h657_ := iv_get hv645_ (k := 146) (j := 2) (l := 0) (u := 40) rfl
  have h658_ : a645_ 146 2 = a 146 2 := hf645_ 146 2 rfl
  have h659_ := iv_get hv647_ (k := 2) (j := 1) (l := 0) (u := 200) rfl
  have h660_ : a647_ 2 1 = a645_ 2 1 := hf647_ 2 1 rfl
  have h661_ := iv_get hv645_ (k := 2) (j := 1) (l := 0) (u := 200) rfl
  have h662_ : a645_ 2 1 = a 2 1 := hf645_ 2 1 rfl
  have h663_ := iv_get hv647_ (k := 146) (j := 22) (l := 0) (u := 200) rfl
  have h664_ : a647_ 146 22 = a645_ 146 22 := hf647_ 146 22 rfl
  have h665_ := iv_get hv645_ (k := 146) (j := 22) (l := 0) (u := 200) rfl
  have h666_ : a645_ 146 22 = a 146 22 := hf645_ 146 22 rfl
  have h667_ := iv_get hv647_ (k := 105) (j := 5) (l := 0) (u := 10) rfl
  have h668_ : a647_ 105 5 = a645_ 105 5 := hf647_ 105 5 rfl
  have h669_ := iv_get hv645_ (k := 105) (j := 5) (l := 0) (u := 10) rfl
  have h670_ : a645_ 105 5 = a 105 5 := hf645_ 105 5 rfl
  have h671_ := iv_get hv647_ (k := 146) (j := 68) (l := 0) (u := 10) rfl
  have h672_ : a647_ 146 68 = a645_ 146 68 := hf647_ 146 68 rfl
  have h673_ := iv_get hv645_ (k := 146) (j := 68) (l := 0) (u := 10) rfl
  have h674_ : a645_ 146 68 = a 146 68 := hf645_ 146 68 rfl
  exact hnext a647_ b hv647_ (WFW_fr (WFW_fr hg0 hf645_ (fun _ => rfl) (fun _ => rfl)) hf647_ (fun _ => rfl) (fun _ => rfl)) (SV_fr (SV_fr hg1 hf645_ (fun _ => rfl) (fun _ => rfl)) hf647_ (fun _ => rfl) (fun _ => rfl)) hq647_1 (FO_fr (FO_fr hg3 hf645_ rfl rfl (fun _ => rfl)) hf647_ rfl rfl (fun _ => rfl)) (FW_fr (FW_fr hg4 hf645_ rfl (fun _ => rfl)) hf647_ rfl (fun _ => rfl)) (TAPE_fr (TAPE_fr hg5 hf645_ (fun _ => rfl) (fun _ => rfl)) hf647_ (fun _ => rfl) (fun _ => rfl)) (show a647_ 4 6 = a647_ 146 2 from by omega) (show a647_ 2 1 = a647_ 146 22 from by omega) (show a647_ 105 5 = a647_ 146 68 from by omega)
theorem lw_op856 (E : jxE) (d : Nat) (hd : Nat.ble 60 (d + 1) = true) (hL : E.1 ≤ 3072) (y3 : Int) (hy0 : 0 ≤ y3) (hy1 : y3 + 6 ≤ E.1) (hnext : ∀ (a b : Nat → Nat → Int) (hv : iv a) (hg0 : WFW a) (hg1 : SV a) (hg2 : OC a) (hg3 : FO a) (hg4 : FW a) (hg5 : TAPE a) (hr0 : a 4 6 = a 146 2) (hr1 : a 2 1 = a 146 22) (hr2 : a 105 5 = a 146 68), jt (jxX E d 305 1189 [some (.inr (.inr (.inl 3000))), some (.inr (.inr (.inl 0))), some (.inr (.inr (.inl 146))), some (.inl y3)] [] (jxSH, a, b)) (fun v _ _ => v = [.inl 1])) (a b : Nat → Nat → Int) (hv : iv a) (hg0 : WFW a) (hg1 : SV a) (hg2 : OC a) (hg3 : FO a) (hg4 : FW a) (hg5 : TAPE a) (hr0 : a 4 6 = a 146 2) (hr1 : a 2 1 = a 146 22) (hr2 : a 105 5 = a 146 68) : jt (jxX E d 305 856 [some (.inr (.inr (.inl 3000))), some (.inr (.inr (.inl 0))), some (.inr (.inr (.inl 146))), some (.inl y3)] [] (jxSH, a, b)) (fun v _ _ => v = [.inl 1]) := by
  refine jt_eq (bq_law_856 E d y3 a b) ?_
  have h675_ := iv_get hv (k := 4) (j := 6) (l := 0) (u := 40) rfl
  have h676_ := iv_get hv (k := 146) (j := 2) (l := 0) (u := 40) rfl
  have h677_ := iv_get hv (k := 2) (j := 1) (l := 0) (u := 200) rfl
  have h678_ := iv_get hv (k := 146) (j := 22) (l := 0) (u := 200) rfl
  have h679_ := iv_get hv (k := 105) (j := 5) (l := 0) (u := 10) rfl
  have h680_ := iv_get hv (k := 146) (j := 68) (l := 0) (u := 10) rfl
  refine jt_bI (sp_X11_rings E d (jd_le hd rfl) a b hv) (fun r681_ a681_ b681_ h681_ => ?_)
  obtain ⟨hv681_, hf681_, hq681_0⟩ := h681_
  have h682_ := iv_get hv (k := 83) (j := 6) (l := 0) (u := 20) rfl
  refine jt_eq (bq_law_861 E d y3 a681_ b681_) ?_
  refine jt_bI (sp_X12_rings E d (jd_le hd rfl) a681_ b681_ hv681_ (FO_fr hg3 hf681_ rfl rfl (fun _ => rfl)) (FW_fr hg4 hf681_ rfl (fun _ => rfl))) (fun r683_ a683_ b683_ h683_ => ?_)
  obtain ⟨hv683_, hf683_, rfl, hq683_0, hq683_1, hq683_2⟩ := h683_
  have h684_ := iv_get hv681_ (k := 146) (j := 49) (l := 0) (u := 20) rfl
  have h685_ : a681_ 146 49 = a 146 49 := hf681_ 146 49 rfl
  have h686_ := iv_get hv (k := 146) (j := 49) (l := 0) (u := 20) rfl
  have h687_ := iv_get hv683_ (k := 4) (j := 6) (l := 0) (u := 40) rfl
  have h688_ : a683_ 4 6 = a681_ 4 6 := hf683_ 4 6 rfl
  have h689_ := iv_get hv681_ (k := 4) (j := 6) (l := 0) (u := 40) rfl
  have h690_ : a681_ 4 6 = a 4 6 := hf681_ 4 6 rfl
  have h691_ := iv_get hv683_ (k := 146) (j := 2) (l := 0) (u := 40) rfl
  have h692_ : a683_ 146 2 = a681_ 146 2 := hf683_ 146 2 rfl
  have h693_ := iv_get hv681_ (k := 146) (j := 2) (l := 0) (u := 40) rfl
  have h694_ : a681_ 146 2 = a 146 2 := hf681_ 146 2 rfl
  have h695_ := iv_get hv683_ (k := 2) (j := 1) (l := 0) (u := 200) rfl
  have h696_ : a683_ 2 1 = a681_ 2 1 := hf683_ 2 1 rfl
  have h697_ := iv_get hv681_ (k := 2) (j := 1) (l := 0) (u := 200) rfl
  have h698_ : a681_ 2 1 = a 2 1 := hf681_ 2 1 rfl
  have h699_ := iv_get hv683_ (k := 146) (j := 22) (l := 0) (u := 200) rfl
  have h700_ : a683_ 146 22 = a681_ 146 22 := hf683_ 146 22 rfl
  have h701_ := iv_get hv681_ (k := 146) (j := 22) (l := 0) (u := 200) rfl
  have h702_ : a681_ 146 22 = a 146 22 := hf681_ 146 22 rfl
  have h703_ := iv_get hv683_ (k := 105) (j := 5) (l := 0) (u := 10) rfl
  have h704_ : a683_ 105 5 = a681_ 105 5 := hf683_ 105 5 rfl
  have h705_ := iv_get hv681_ (k := 105) (j := 5) (l := 0) (u := 10) rfl
  have h706_ : a681_ 105 5 = a 105 5 := hf681_ 105 5 rfl
  have h707_ := iv_get hv683_ (k := 146) (j := 68) (l := 0) (u := 10) rfl
  have h708_ : a683_ 146 68 = a681_ 146 68 := hf683_ 146 68 rfl
  have h709_ := iv_get hv681_ (k := 146) (j := 68) (l := 0) (u := 10) rfl
  have h710_ : a681_ 146 68 = a 146 68 := hf681_ 146 68 rfl
  exact hnext a683_ b681_ hv683_ (WFW_fr (WFW_fr hg0 hf681_ (fun _ => rfl) (fun _ => rfl)) hf683_ (fun _ => rfl) (fun _ => rfl)) (SV_fr (SV_fr hg1 hf681_ (fun _ => rfl) (fun _ => rfl)) hf683_ (fun _ => rfl) (fun _ => rfl)) (OC_fr (OC_fr hg2 hf681_ rfl rfl (fun _ => rfl) (fun _ => rfl) (fun _ => rfl) (fun _ => rfl) (fun _ => rfl)) hf683_ rfl rfl (fun _ => rfl) (fun _ => rfl) (fun _ => rfl) (fun _ => rfl) (fun _ => rfl)) hq683_0 hq683_1 (TAPE_fr (TAPE_fr hg5 hf681_ (fun _ => rfl) (fun _ => rfl)) hf683_ (fun _ => rfl) (fun _ => rfl)) (show a683_ 4 6 = a683_ 146 2 from by omega) (show a683_ 2 1 = a683_ 146 22 from by omega) (show a683_ 105 5 = a683_ 146 68 from by omega)
theorem lw_op869 (E : jxE) (d : Nat) (hd : Nat.ble 60 (d + 1) = true) (hL : E.1 ≤ 3072) (y3 : Int) (hy0 : 0 ≤ y3) (hy1 : y3 + 6 ≤ E.1) (hnext : ∀ (a b : Nat → Nat → Int) (hv : iv a) (hg0 : WFW a) (hg1 : SV a) (hg2 : OC a) (hg3 : FO a) (hg4 : FW a) (hg5 : TAPE a) (hr0 : a 4 6 = a 146 2) (hr1 : a 2 1 = a 146 22) (hr2 : a 105 5 = a 146 68), jt (jxX E d 305 1189 [some (.inr (.inr (.inl 3000))), some (.inr (.inr (.inl 0))), some (.inr (.inr (.inl 146))), some (.inl y3)] [] (jxSH, a, b)) (fun v _ _ => v = [.inl 1])) (a b : Nat → Nat → Int) (hv : iv a) (hg0 : WFW a) (hg1 : SV a) (hg2 : OC a) (hg3 : FO a) (hg4 : FW a) (hg5 : TAPE a) (hr0 : a 4 6 = a 146 2) (hr1 : a 2 1 = a 146 22) (hr2 : a 105 5 = a 146 68) : jt (jxX E d 305 869 [some (.inr (.inr (.inl 3000))), some (.inr (.inr (.inl 0))), some (.inr (.inr (.inl 146))), some (.inl y3)] [] (jxSH, a, b)) (fun v _ _ => v = [.inl 1]) := by
  refine jt_eq (bq_law_869 E d y3 a b) ?_
  have h711_ := iv_get hv (k := 4) (j := 6) (l := 0) (u := 40) rfl
  have h712_ := iv_get hv (k := 146) (j := 2) (l := 0) (u := 40) rfl
  have h713_ := iv_get hv (k := 2) (j := 1) (l := 0) (u := 200) rfl
  have h714_ := iv_get hv (k := 146) (j := 22) (l := 0) (u := 200) rfl
  have h715_ := iv_get hv (k := 105) (j := 5) (l := 0) (u := 10) rfl
  have h716_ := iv_get hv (k := 146) (j := 68) (l := 0) (u := 10) rfl
  refine jt_bif (Nat.ble_eq_true_of_le (by omega)) ?_
  have h717_ : jxw (y3 + 1) = y3 + 1 := jxw_id (by omega) (by omega)
  refine jt_grd (by omega) ?_
  refine jt_bif (Nat.ble_eq_true_of_le (by omega)) ?_
  have h718_ : jxw (y3 + 2) = y3 + 2 := jxw_id (by omega) (by omega)
  refine jt_grd (by omega) ?_
  refine jt_eI (eq_X11_ring E d (jd_le hd rfl) (E.2 ((jxw (y3 + 1)).toNat)) (E.2 ((jxw (y3 + 2)).toNat)) a b) ?_
  refine jt_eq (bq_law_884 E d y3 a b) ?_
  refine jt_bif (Nat.ble_eq_true_of_le (by omega)) ?_
  refine jt_grd (by omega) ?_
  refine jt_bif (Nat.ble_eq_true_of_le (by omega)) ?_
  refine jt_grd (by omega) ?_
  refine jt_eI (eq_X12_ring E d (jd_le hd rfl) (E.2 ((jxw (y3 + 1)).toNat)) (E.2 ((jxw (y3 + 2)).toNat)) a b hv) ?_
  exact hnext a b hv hg0 hg1 hg2 hg3 hg4 hg5 (show a 4 6 = a 146 2 from by omega) (show a 2 1 = a 146 22 from by omega) (show a 105 5 = a 146 68 from by omega)
theorem lw_op902 (E : jxE) (d : Nat) (hd : Nat.ble 60 (d + 1) = true) (hL : E.1 ≤ 3072) (y3 : Int) (hy0 : 0 ≤ y3) (hy1 : y3 + 6 ≤ E.1) (hnext : ∀ (a b : Nat → Nat → Int) (hv : iv a) (hg0 : WFW a) (hg1 : SV a) (hg2 : OC a) (hg3 : FO a) (hg4 : FW a) (hg5 : TAPE a) (hr0 : a 4 6 = a 146 2) (hr1 : a 2 1 = a 146 22) (hr2 : a 105 5 = a 146 68), jt (jxX E d 305 1189 [some (.inr (.inr (.inl 3000))), some (.inr (.inr (.inl 0))), some (.inr (.inr (.inl 146))), some (.inl y3)] [] (jxSH, a, b)) (fun v _ _ => v = [.inl 1])) (a b : Nat → Nat → Int) (hv : iv a) (hg0 : WFW a) (hg1 : SV a) (hg2 : OC a) (hg3 : FO a) (hg4 : FW a) (hg5 : TAPE a) (hr0 : a 4 6 = a 146 2) (hr1 : a 2 1 = a 146 22) (hr2 : a 105 5 = a 146 68) : jt (jxX E d 305 902 [some (.inr (.inr (.inl 3000))), some (.inr (.inr (.inl 0))), some (.inr (.inr (.inl 146))), some (.inl y3)] [] (jxSH, a, b)) (fun v _ _ => v = [.inl 1]) := by
  refine jt_eq (bq_law_902 E d y3 a b) ?_
  have h719_ := iv_get hv (k := 4) (j := 6) (l := 0) (u := 40) rfl
  have h720_ := iv_get hv (k := 146) (j := 2) (l := 0) (u := 40) rfl
  have h721_ := iv_get hv (k := 2) (j := 1) (l := 0) (u := 200) rfl
  have h722_ := iv_get hv (k := 146) (j := 22) (l := 0) (u := 200) rfl
  have h723_ := iv_get hv (k := 105) (j := 5) (l := 0) (u := 10) rfl
  have h724_ := iv_get hv (k := 146) (j := 68) (l := 0) (u := 10) rfl
  refine jt_bif (Nat.ble_eq_true_of_le (by omega)) ?_
  have h725_ : jxw (y3 + 1) = y3 + 1 := jxw_id (by omega) (by omega)
  refine jt_grd (by omega) ?_
  refine jt_bI (sp_X11_close E d (jd_le hd rfl) (E.2 ((jxw (y3 + 1)).toNat)) a b hv) (fun r726_ a726_ b726_ h726_ => ?_)
  obtain ⟨hv726_, hf726_, rfl, hq726_0⟩ := h726_
  have h727_ := iv_get hv (k := 90) (j := 12) (l := 0) (u := 6) rfl
  refine jt_eq (bq_law_912 E d y3 a726_ b) ?_
  refine jt_bif (Nat.ble_eq_true_of_le (by omega)) ?_
  refine jt_grd (by omega) ?_
  refine jt_bI (sp_X12_close E d (jd_le hd rfl) (E.2 ((jxw (y3 + 1)).toNat)) a726_ b hv726_ (OC_fr hg2 hf726_ rfl rfl (fun _ => rfl) (fun _ => rfl) (fun _ => rfl) (fun _ => rfl) (fun _ => rfl)) (FO_fr hg3 hf726_ rfl rfl (fun _ => rfl))) (fun r728_ a728_ b728_ h728_ => ?_)
  obtain ⟨hv728_, hf728_, rfl, hq728_0, hq728_1⟩ := h728_
  have h729_ := iv_get hv726_ (k := 146) (j := 64) (l := 0) (u := 6) rfl
  have h730_ : a726_ 146 64 = a 146 64 := hf726_ 146 64 rfl
  have h731_ := iv_get hv (k := 146) (j := 64) (l := 0) (u := 6) rfl
  have h732_ := iv_get hv728_ (k := 4) (j := 6) (l := 0) (u := 40) rfl
  have h733_ : a728_ 4 6 = a726_ 4 6 := hf728_ 4 6 rfl
  have h734_ := iv_get hv726_ (k := 4) (j := 6) (l := 0) (u := 40) rfl
  have h735_ : a726_ 4 6 = a 4 6 := hf726_ 4 6 rfl
  have h736_ := iv_get hv728_ (k := 146) (j := 2) (l := 0) (u := 40) rfl
  have h737_ : a728_ 146 2 = a726_ 146 2 := hf728_ 146 2 rfl
  have h738_ := iv_get hv726_ (k := 146) (j := 2) (l := 0) (u := 40) rfl
  have h739_ : a726_ 146 2 = a 146 2 := hf726_ 146 2 rfl
  have h740_ := iv_get hv728_ (k := 2) (j := 1) (l := 0) (u := 200) rfl
  have h741_ : a728_ 2 1 = a726_ 2 1 := hf728_ 2 1 rfl
  have h742_ := iv_get hv726_ (k := 2) (j := 1) (l := 0) (u := 200) rfl
  have h743_ : a726_ 2 1 = a 2 1 := hf726_ 2 1 rfl
  have h744_ := iv_get hv728_ (k := 146) (j := 22) (l := 0) (u := 200) rfl
  have h745_ : a728_ 146 22 = a726_ 146 22 := hf728_ 146 22 rfl
  have h746_ := iv_get hv726_ (k := 146) (j := 22) (l := 0) (u := 200) rfl
  have h747_ : a726_ 146 22 = a 146 22 := hf726_ 146 22 rfl
  have h748_ := iv_get hv728_ (k := 105) (j := 5) (l := 0) (u := 10) rfl
  have h749_ : a728_ 105 5 = a726_ 105 5 := hf728_ 105 5 rfl
  have h750_ := iv_get hv726_ (k := 105) (j := 5) (l := 0) (u := 10) rfl
  have h751_ : a726_ 105 5 = a 105 5 := hf726_ 105 5 rfl
  have h752_ := iv_get hv728_ (k := 146) (j := 68) (l := 0) (u := 10) rfl
  have h753_ : a728_ 146 68 = a726_ 146 68 := hf728_ 146 68 rfl
  have h754_ := iv_get hv726_ (k := 146) (j := 68) (l := 0) (u := 10) rfl
  have h755_ : a726_ 146 68 = a 146 68 := hf726_ 146 68 rfl
  exact hnext a728_ b hv728_ (WFW_fr (WFW_fr hg0 hf726_ (fun _ => rfl) (fun _ => rfl)) hf728_ (fun _ => rfl) (fun _ => rfl)) (SV_fr (SV_fr hg1 hf726_ (fun _ => rfl) (fun _ => rfl)) hf728_ (fun _ => rfl) (fun _ => rfl)) hq728_0 (FO_fr (FO_fr hg3 hf726_ rfl rfl (fun _ => rfl)) hf728_ rfl rfl (fun _ => rfl)) (FW_fr (FW_fr hg4 hf726_ rfl (fun _ => rfl)) hf728_ rfl (fun _ => rfl)) (TAPE_fr (TAPE_fr hg5 hf726_ (fun _ => rfl) (fun _ => rfl)) hf728_ (fun _ => rfl) (fun _ => rfl)) (show a728_ 4 6 = a728_ 146 2 from by omega) (show a728_ 2 1 = a728_ 146 22 from by omega) (show a728_ 105 5 = a728_ 146 68 from by omega)
theorem lw_op925 (E : jxE) (d : Nat) (hd : Nat.ble 60 (d + 1) = true) (hL : E.1 ≤ 3072) (y3 : Int) (hy0 : 0 ≤ y3) (hy1 : y3 + 6 ≤ E.1) (hnext : ∀ (a b : Nat → Nat → Int) (hv : iv a) (hg0 : WFW a) (hg1 : SV a) (hg2 : OC a) (hg3 : FO a) (hg4 : FW a) (hg5 : TAPE a) (hr0 : a 4 6 = a 146 2) (hr1 : a 2 1 = a 146 22) (hr2 : a 105 5 = a 146 68), jt (jxX E d 305 1189 [some (.inr (.inr (.inl 3000))), some (.inr (.inr (.inl 0))), some (.inr (.inr (.inl 146))), some (.inl y3)] [] (jxSH, a, b)) (fun v _ _ => v = [.inl 1])) (a b : Nat → Nat → Int) (hv : iv a) (hg0 : WFW a) (hg1 : SV a) (hg2 : OC a) (hg3 : FO a) (hg4 : FW a) (hg5 : TAPE a) (hr0 : a 4 6 = a 146 2) (hr1 : a 2 1 = a 146 22) (hr2 : a 105 5 = a 146 68) : jt (jxX E d 305 925 [some (.inr (.inr (.inl 3000))), some (.inr (.inr (.inl 0))), some (.inr (.inr (.inl 146))), some (.inl y3)] [] (jxSH, a, b)) (fun v _ _ => v = [.inl 1]) := by
  refine jt_eq (bq_law_925 E d y3 a b) ?_
  have h756_ := iv_get hv (k := 4) (j := 6) (l := 0) (u := 40) rfl
  have h757_ := iv_get hv (k := 146) (j := 2) (l := 0) (u := 40) rfl
  have h758_ := iv_get hv (k := 2) (j := 1) (l := 0) (u := 200) rfl
  have h759_ := iv_get hv (k := 146) (j := 22) (l := 0) (u := 200) rfl
  have h760_ := iv_get hv (k := 105) (j := 5) (l := 0) (u := 10) rfl
  have h761_ := iv_get hv (k := 146) (j := 68) (l := 0) (u := 10) rfl
  refine jt_bif (Nat.ble_eq_true_of_le (by omega)) ?_
  have h762_ : jxw (y3 + 1) = y3 + 1 := jxw_id (by omega) (by omega)
  refine jt_grd (by omega) ?_
  refine jt_bif (Nat.ble_eq_true_of_le (by omega)) ?_
  have h763_ : jxw (y3 + 2) = y3 + 2 := jxw_id (by omega) (by omega)
  refine jt_grd (by omega) ?_
  refine jt_bI (sp_X11_drop E d (jd_le hd rfl) (E.2 ((jxw (y3 + 1)).toNat)) (E.2 ((jxw (y3 + 2)).toNat)) a b hv) (fun r764_ a764_ b764_ h764_ => ?_)
  obtain ⟨hv764_, hf764_, rfl, hq764_0⟩ := h764_
  have h765_ := iv_get hv (k := 83) (j := 6) (l := 0) (u := 20) rfl
  refine jt_eq (bq_law_940 E d y3 a764_ b) ?_
  refine jt_bif (Nat.ble_eq_true_of_le (by omega)) ?_
  refine jt_grd (by omega) ?_
  refine jt_bif (Nat.ble_eq_true_of_le (by omega)) ?_
  refine jt_grd (by omega) ?_
  refine jt_bI (sp_X12_drop E d (jd_le hd rfl) (E.2 ((jxw (y3 + 1)).toNat)) (E.2 ((jxw (y3 + 2)).toNat)) a764_ b hv764_ (OC_fr hg2 hf764_ rfl rfl (fun _ => rfl) (fun _ => rfl) (fun _ => rfl) (fun _ => rfl) (fun _ => rfl))) (fun r766_ a766_ b766_ h766_ => ?_)
  obtain ⟨hv766_, hf766_, rfl, hq766_0, hq766_1⟩ := h766_
  have h767_ : a764_ 146 55 = a 146 55 := hf764_ 146 55 rfl
  have h768_ := iv_get hv766_ (k := 4) (j := 6) (l := 0) (u := 40) rfl
  have h769_ : a766_ 4 6 = a764_ 4 6 := hf766_ 4 6 rfl
  have h770_ := iv_get hv764_ (k := 4) (j := 6) (l := 0) (u := 40) rfl
  have h771_ : a764_ 4 6 = a 4 6 := hf764_ 4 6 rfl
  have h772_ := iv_get hv766_ (k := 146) (j := 2) (l := 0) (u := 40) rfl
  have h773_ : a766_ 146 2 = a764_ 146 2 := hf766_ 146 2 rfl
  have h774_ := iv_get hv764_ (k := 146) (j := 2) (l := 0) (u := 40) rfl
  have h775_ : a764_ 146 2 = a 146 2 := hf764_ 146 2 rfl
  have h776_ := iv_get hv766_ (k := 2) (j := 1) (l := 0) (u := 200) rfl
  have h777_ : a766_ 2 1 = a764_ 2 1 := hf766_ 2 1 rfl
  have h778_ := iv_get hv764_ (k := 2) (j := 1) (l := 0) (u := 200) rfl
  have h779_ : a764_ 2 1 = a 2 1 := hf764_ 2 1 rfl
  have h780_ := iv_get hv766_ (k := 146) (j := 22) (l := 0) (u := 200) rfl
  have h781_ : a766_ 146 22 = a764_ 146 22 := hf766_ 146 22 rfl
  have h782_ := iv_get hv764_ (k := 146) (j := 22) (l := 0) (u := 200) rfl
  have h783_ : a764_ 146 22 = a 146 22 := hf764_ 146 22 rfl
  have h784_ := iv_get hv766_ (k := 105) (j := 5) (l := 0) (u := 10) rfl
  have h785_ : a766_ 105 5 = a764_ 105 5 := hf766_ 105 5 rfl
  have h786_ := iv_get hv764_ (k := 105) (j := 5) (l := 0) (u := 10) rfl
  have h787_ : a764_ 105 5 = a 105 5 := hf764_ 105 5 rfl
  have h788_ := iv_get hv766_ (k := 146) (j := 68) (l := 0) (u := 10) rfl
  have h789_ : a766_ 146 68 = a764_ 146 68 := hf766_ 146 68 rfl
  have h790_ := iv_get hv764_ (k := 146) (j := 68) (l := 0) (u := 10) rfl
  have h791_ : a764_ 146 68 = a 146 68 := hf764_ 146 68 rfl
  exact hnext a766_ b hv766_ (WFW_fr (WFW_fr hg0 hf764_ (fun _ => rfl) (fun _ => rfl)) hf766_ (fun _ => rfl) (fun _ => rfl)) (SV_fr (SV_fr hg1 hf764_ (fun _ => rfl) (fun _ => rfl)) hf766_ (fun _ => rfl) (fun _ => rfl)) hq766_0 (FO_fr (FO_fr hg3 hf764_ rfl rfl (fun _ => rfl)) hf766_ rfl rfl (fun _ => rfl)) (FW_fr (FW_fr hg4 hf764_ rfl (fun _ => rfl)) hf766_ rfl (fun _ => rfl)) (TAPE_fr (TAPE_fr hg5 hf764_ (fun _ => rfl) (fun _ => rfl)) hf766_ (fun _ => rfl) (fun _ => rfl)) (show a766_ 4 6 = a766_ 146 2 from by omega) (show a766_ 2 1 = a766_ 146 22 from by omega) (show a766_ 105 5 = a766_ 146 68 from by omega)
theorem lw_op958 (E : jxE) (d : Nat) (hd : Nat.ble 60 (d + 1) = true) (hL : E.1 ≤ 3072) (y3 : Int) (hy0 : 0 ≤ y3) (hy1 : y3 + 6 ≤ E.1) (hnext : ∀ (a b : Nat → Nat → Int) (hv : iv a) (hg0 : WFW a) (hg1 : SV a) (hg2 : OC a) (hg3 : FO a) (hg4 : FW a) (hg5 : TAPE a) (hr0 : a 4 6 = a 146 2) (hr1 : a 2 1 = a 146 22) (hr2 : a 105 5 = a 146 68), jt (jxX E d 305 1189 [some (.inr (.inr (.inl 3000))), some (.inr (.inr (.inl 0))), some (.inr (.inr (.inl 146))), some (.inl y3)] [] (jxSH, a, b)) (fun v _ _ => v = [.inl 1])) (a b : Nat → Nat → Int) (hv : iv a) (hg0 : WFW a) (hg1 : SV a) (hg2 : OC a) (hg3 : FO a) (hg4 : FW a) (hg5 : TAPE a) (hr0 : a 4 6 = a 146 2) (hr1 : a 2 1 = a 146 22) (hr2 : a 105 5 = a 146 68) : jt (jxX E d 305 958 [some (.inr (.inr (.inl 3000))), some (.inr (.inr (.inl 0))), some (.inr (.inr (.inl 146))), some (.inl y3)] [] (jxSH, a, b)) (fun v _ _ => v = [.inl 1]) := by
  refine jt_eq (bq_law_958 E d y3 a b) ?_
  have h792_ := iv_get hv (k := 4) (j := 6) (l := 0) (u := 40) rfl
  have h793_ := iv_get hv (k := 146) (j := 2) (l := 0) (u := 40) rfl
  have h794_ := iv_get hv (k := 2) (j := 1) (l := 0) (u := 200) rfl
  have h795_ := iv_get hv (k := 146) (j := 22) (l := 0) (u := 200) rfl
  have h796_ := iv_get hv (k := 105) (j := 5) (l := 0) (u := 10) rfl
  have h797_ := iv_get hv (k := 146) (j := 68) (l := 0) (u := 10) rfl
  refine jt_bif (Nat.ble_eq_true_of_le (by omega)) ?_
  have h798_ : jxw (y3 + 1) = y3 + 1 := jxw_id (by omega) (by omega)
  refine jt_grd (by omega) ?_
  refine jt_bif (Nat.ble_eq_true_of_le (by omega)) ?_
  have h799_ : jxw (y3 + 2) = y3 + 2 := jxw_id (by omega) (by omega)
  refine jt_grd (by omega) ?_
  refine jt_eI (eq_X11_offers E d (jd_le hd rfl) (E.2 ((jxw (y3 + 1)).toNat)) (E.2 ((jxw (y3 + 2)).toNat)) a b) ?_
  refine jt_eq (bq_law_973 E d y3 a b) ?_
  refine jt_bif (Nat.ble_eq_true_of_le (by omega)) ?_
  refine jt_grd (by omega) ?_
  refine jt_bif (Nat.ble_eq_true_of_le (by omega)) ?_
  refine jt_grd (by omega) ?_
  refine jt_eI (eq_X12_offers E d (jd_le hd rfl) (E.2 ((jxw (y3 + 1)).toNat)) (E.2 ((jxw (y3 + 2)).toNat)) a b hv) ?_
  exact hnext a b hv hg0 hg1 hg2 hg3 hg4 hg5 (show a 4 6 = a 146 2 from by omega) (show a 2 1 = a 146 22 from by omega) (show a 105 5 = a 146 68 from by omega)
theorem lw_op991 (E : jxE) (d : Nat) (hd : Nat.ble 60 (d + 1) = true) (hL : E.1 ≤ 3072) (y3 : Int) (hy0 : 0 ≤ y3) (hy1 : y3 + 6 ≤ E.1) (hnext : ∀ (a b : Nat → Nat → Int) (hv : iv a) (hg0 : WFW a) (hg1 : SV a) (hg2 : OC a) (hg3 : FO a) (hg4 : FW a) (hg5 : TAPE a) (hr0 : a 4 6 = a 146 2) (hr1 : a 2 1 = a 146 22) (hr2 : a 105 5 = a 146 68), jt (jxX E d 305 1189 [some (.inr (.inr (.inl 3000))), some (.inr (.inr (.inl 0))), some (.inr (.inr (.inl 146))), some (.inl y3)] [] (jxSH, a, b)) (fun v _ _ => v = [.inl 1])) (a b : Nat → Nat → Int) (hv : iv a) (hg0 : WFW a) (hg1 : SV a) (hg2 : OC a) (hg3 : FO a) (hg4 : FW a) (hg5 : TAPE a) (hr0 : a 4 6 = a 146 2) (hr1 : a 2 1 = a 146 22) (hr2 : a 105 5 = a 146 68) : jt (jxX E d 305 991 [some (.inr (.inr (.inl 3000))), some (.inr (.inr (.inl 0))), some (.inr (.inr (.inl 146))), some (.inl y3)] [] (jxSH, a, b)) (fun v _ _ => v = [.inl 1]) := by
  refine jt_eq (bq_law_991 E d y3 a b) ?_
  have h800_ := iv_get hv (k := 4) (j := 6) (l := 0) (u := 40) rfl
  have h801_ := iv_get hv (k := 146) (j := 2) (l := 0) (u := 40) rfl
  have h802_ := iv_get hv (k := 2) (j := 1) (l := 0) (u := 200) rfl
  have h803_ := iv_get hv (k := 146) (j := 22) (l := 0) (u := 200) rfl
  have h804_ := iv_get hv (k := 105) (j := 5) (l := 0) (u := 10) rfl
  have h805_ := iv_get hv (k := 146) (j := 68) (l := 0) (u := 10) rfl
  refine jt_bif (Nat.ble_eq_true_of_le (by omega)) ?_
  have h806_ : jxw (y3 + 1) = y3 + 1 := jxw_id (by omega) (by omega)
  refine jt_grd (by omega) ?_
  refine jt_bI (sp_X11_rates E d (jd_le hd rfl) (E.2 ((jxw (y3 + 1)).toNat)) a b hv) (fun r807_ a807_ b807_ h807_ => ?_)
  obtain ⟨hv807_, hf807_, rfl, hq807_0, hq807_1, hq807_2, hq807_3, hq807_4⟩ := h807_
  have h808_ := iv_get hv807_ (k := 2) (j := 1) (l := 0) (u := 200) rfl
  have h809_ := iv_get hv807_ (k := 105) (j := 5) (l := 0) (u := 10) rfl
  refine jt_bif (Nat.ble_eq_true_of_le (by omega)) ?_
  refine jt_grd (by omega) ?_
  refine jt_bI (sp_X12_rates E d (jd_le hd rfl) (E.2 ((jxw (y3 + 1)).toNat)) a807_ b hv807_) (fun r810_ a810_ b810_ h810_ => ?_)
  obtain ⟨hv810_, hf810_, rfl, hq810_0, hq810_1, hq810_2, hq810_3, hq810_4, hq810_5⟩ := h810_
  have h811_ := iv_get hv807_ (k := 146) (j := 22) (l := 0) (u := 200) rfl
  have h812_ : a807_ 146 22 = a 146 22 := hf807_ 146 22 rfl
  have h813_ := iv_get hv807_ (k := 146) (j := 68) (l := 0) (u := 10) rfl
  have h814_ : a807_ 146 68 = a 146 68 := hf807_ 146 68 rfl
  have h815_ := iv_get hv810_ (k := 146) (j := 68) (l := 0) (u := 10) rfl
  have h816_ := iv_get hv810_ (k := 146) (j := 22) (l := 0) (u := 200) rfl
  have hfin810 := RATE_fin hg5 hr1 hr2 hq807_1 hq807_2 hq807_3 hq810_1 hq810_4 hq810_5 (fun j => hf807_ 164 j rfl) (hf807_ 146 22 rfl) (hf807_ 146 68 rfl) (hf810_ 2 1 rfl) (hf810_ 105 5 rfl)
  clear hq807_0 hq807_1 hq807_2 hq807_3 hq810_0 hq810_1 hq810_2 hq810_3 hq810_4 hq810_5
  refine jt_ite (fun c817_ => ?_) (fun c817_ => ?_)
  ·
    have h818_ := iv_get hv810_ (k := 4) (j := 6) (l := 0) (u := 40) rfl
    have h819_ : a810_ 4 6 = a807_ 4 6 := hf810_ 4 6 rfl
    have h820_ := iv_get hv807_ (k := 4) (j := 6) (l := 0) (u := 40) rfl
    have h821_ : a807_ 4 6 = a 4 6 := hf807_ 4 6 rfl
    have h822_ := iv_get hv810_ (k := 146) (j := 2) (l := 0) (u := 40) rfl
    have h823_ : a810_ 146 2 = a807_ 146 2 := hf810_ 146 2 rfl
    have h824_ := iv_get hv807_ (k := 146) (j := 2) (l := 0) (u := 40) rfl
    have h825_ : a807_ 146 2 = a 146 2 := hf807_ 146 2 rfl
    have h826_ := iv_get hv810_ (k := 2) (j := 1) (l := 0) (u := 200) rfl
    have h827_ : a810_ 2 1 = a807_ 2 1 := hf810_ 2 1 rfl
    have h828_ := iv_get hv810_ (k := 105) (j := 5) (l := 0) (u := 10) rfl
    have h829_ : a810_ 105 5 = a807_ 105 5 := hf810_ 105 5 rfl
    exact hnext a810_ b hv810_ (WFW_fr (WFW_fr hg0 hf807_ (fun _ => rfl) (fun _ => rfl)) hf810_ (fun _ => rfl) (fun _ => rfl)) (SV_fr (SV_fr hg1 hf807_ (fun _ => rfl) (fun _ => rfl)) hf810_ (fun _ => rfl) (fun _ => rfl)) (OC_fr (OC_fr hg2 hf807_ rfl rfl (fun _ => rfl) (fun _ => rfl) (fun _ => rfl) (fun _ => rfl) (fun _ => rfl)) hf810_ rfl rfl (fun _ => rfl) (fun _ => rfl) (fun _ => rfl) (fun _ => rfl) (fun _ => rfl)) (FO_fr (FO_fr hg3 hf807_ rfl rfl (fun _ => rfl)) hf810_ rfl rfl (fun _ => rfl)) (FW_fr (FW_fr hg4 hf807_ rfl (fun _ => rfl)) hf810_ rfl (fun _ => rfl)) (TAPE_fr (TAPE_fr hg5 hf807_ (fun _ => rfl) (fun _ => rfl)) hf810_ (fun _ => rfl) (fun _ => rfl)) (show a810_ 4 6 = a810_ 146 2 from by omega) (show a810_ 2 1 = a810_ 146 22 from by omega) (show a810_ 105 5 = a810_ 146 68 from by omega)
  ·
    exact absurd (by omega : False) id
theorem lw_op1014 (E : jxE) (d : Nat) (hd : Nat.ble 60 (d + 1) = true) (hL : E.1 ≤ 3072) (y3 : Int) (hy0 : 0 ≤ y3) (hy1 : y3 + 6 ≤ E.1) (hnext : ∀ (a b : Nat → Nat → Int) (hv : iv a) (hg0 : WFW a) (hg1 : SV a) (hg2 : OC a) (hg3 : FO a) (hg4 : FW a) (hg5 : TAPE a) (hr0 : a 4 6 = a 146 2) (hr1 : a 2 1 = a 146 22) (hr2 : a 105 5 = a 146 68), jt (jxX E d 305 1189 [some (.inr (.inr (.inl 3000))), some (.inr (.inr (.inl 0))), some (.inr (.inr (.inl 146))), some (.inl y3)] [] (jxSH, a, b)) (fun v _ _ => v = [.inl 1])) (a b : Nat → Nat → Int) (hv : iv a) (hg0 : WFW a) (hg1 : SV a) (hg2 : OC a) (hg3 : FO a) (hg4 : FW a) (hg5 : TAPE a) (hr0 : a 4 6 = a 146 2) (hr1 : a 2 1 = a 146 22) (hr2 : a 105 5 = a 146 68) : jt (jxX E d 305 1014 [some (.inr (.inr (.inl 3000))), some (.inr (.inr (.inl 0))), some (.inr (.inr (.inl 146))), some (.inl y3)] [] (jxSH, a, b)) (fun v _ _ => v = [.inl 1]) := by
  refine jt_eq (bq_law_1014 E d y3 a b) ?_
  have h830_ := iv_get hv (k := 4) (j := 6) (l := 0) (u := 40) rfl
  have h831_ := iv_get hv (k := 146) (j := 2) (l := 0) (u := 40) rfl
  have h832_ := iv_get hv (k := 2) (j := 1) (l := 0) (u := 200) rfl
  have h833_ := iv_get hv (k := 146) (j := 22) (l := 0) (u := 200) rfl
  have h834_ := iv_get hv (k := 105) (j := 5) (l := 0) (u := 10) rfl
  have h835_ := iv_get hv (k := 146) (j := 68) (l := 0) (u := 10) rfl
  refine jt_bif (Nat.ble_eq_true_of_le (by omega)) ?_
  have h836_ : jxw (y3 + 1) = y3 + 1 := jxw_id (by omega) (by omega)
  refine jt_grd (by omega) ?_
  refine jt_bif (Nat.ble_eq_true_of_le (by omega)) ?_
  have h837_ : jxw (y3 + 2) = y3 + 2 := jxw_id (by omega) (by omega)
  refine jt_grd (by omega) ?_
  refine jt_bif (Nat.ble_eq_true_of_le (by omega)) ?_
  have h838_ : jxw (y3 + 3) = y3 + 3 := jxw_id (by omega) (by omega)
  refine jt_grd (by omega) ?_
  refine jt_bif (Nat.ble_eq_true_of_le (by omega)) ?_
  have h839_ : jxw (y3 + 4) = y3 + 4 := jxw_id (by omega) (by omega)
  refine jt_grd (by omega) ?_
  refine jt_bI (sp_X11_price E d (jd_le hd rfl) (E.2 ((jxw (y3 + 1)).toNat)) (E.2 ((jxw (y3 + 2)).toNat)) (E.2 ((jxw (y3 + 3)).toNat)) (E.2 ((jxw (y3 + 4)).toNat)) a b hv) (fun r840_ a840_ b840_ h840_ => ?_)
  obtain ⟨rfl, rfl, hq840_0, hq840_1, hq840_2⟩ := h840_
  refine jt_eq (bq_law_1039 E d y3 a b) ?_
  refine jt_bif (Nat.ble_eq_true_of_le (by omega)) ?_
  refine jt_grd (by omega) ?_
  refine jt_bif (Nat.ble_eq_true_of_le (by omega)) ?_
  refine jt_grd (by omega) ?_
  refine jt_bif (Nat.ble_eq_true_of_le (by omega)) ?_
  refine jt_grd (by omega) ?_
  refine jt_bif (Nat.ble_eq_true_of_le (by omega)) ?_
  refine jt_grd (by omega) ?_
  refine jt_bI (sp_X12_price E d (jd_le hd rfl) (E.2 ((jxw (y3 + 1)).toNat)) (E.2 ((jxw (y3 + 2)).toNat)) (E.2 ((jxw (y3 + 3)).toNat)) (E.2 ((jxw (y3 + 4)).toNat)) a b hv) (fun r841_ a841_ b841_ h841_ => ?_)
  obtain ⟨rfl, rfl, hq841_0, hq841_1, hq841_2⟩ := h841_
  refine jt_eq (bq_law_1064 E d y3 a b) ?_
  exact hnext a b hv hg0 hg1 hg2 hg3 hg4 hg5 (show a 4 6 = a 146 2 from by omega) (show a 2 1 = a 146 22 from by omega) (show a 105 5 = a 146 68 from by omega)
theorem lw_op1067 (E : jxE) (d : Nat) (hd : Nat.ble 60 (d + 1) = true) (hL : E.1 ≤ 3072) (y3 : Int) (hy0 : 0 ≤ y3) (hy1 : y3 + 6 ≤ E.1) (hnext : ∀ (a b : Nat → Nat → Int) (hv : iv a) (hg0 : WFW a) (hg1 : SV a) (hg2 : OC a) (hg3 : FO a) (hg4 : FW a) (hg5 : TAPE a) (hr0 : a 4 6 = a 146 2) (hr1 : a 2 1 = a 146 22) (hr2 : a 105 5 = a 146 68), jt (jxX E d 305 1189 [some (.inr (.inr (.inl 3000))), some (.inr (.inr (.inl 0))), some (.inr (.inr (.inl 146))), some (.inl y3)] [] (jxSH, a, b)) (fun v _ _ => v = [.inl 1])) (a b : Nat → Nat → Int) (hv : iv a) (hg0 : WFW a) (hg1 : SV a) (hg2 : OC a) (hg3 : FO a) (hg4 : FW a) (hg5 : TAPE a) (hr0 : a 4 6 = a 146 2) (hr1 : a 2 1 = a 146 22) (hr2 : a 105 5 = a 146 68) : jt (jxX E d 305 1067 [some (.inr (.inr (.inl 3000))), some (.inr (.inr (.inl 0))), some (.inr (.inr (.inl 146))), some (.inl y3)] [] (jxSH, a, b)) (fun v _ _ => v = [.inl 1]) := by
  refine jt_eq (bq_law_1067 E d y3 a b) ?_
  have h842_ := iv_get hv (k := 4) (j := 6) (l := 0) (u := 40) rfl
  have h843_ := iv_get hv (k := 146) (j := 2) (l := 0) (u := 40) rfl
  have h844_ := iv_get hv (k := 2) (j := 1) (l := 0) (u := 200) rfl
  have h845_ := iv_get hv (k := 146) (j := 22) (l := 0) (u := 200) rfl
  have h846_ := iv_get hv (k := 105) (j := 5) (l := 0) (u := 10) rfl
  have h847_ := iv_get hv (k := 146) (j := 68) (l := 0) (u := 10) rfl
  refine jt_bif (Nat.ble_eq_true_of_le (by omega)) ?_
  have h848_ : jxw (y3 + 1) = y3 + 1 := jxw_id (by omega) (by omega)
  refine jt_grd (by omega) ?_
  refine jt_bif (Nat.ble_eq_true_of_le (by omega)) ?_
  have h849_ : jxw (y3 + 2) = y3 + 2 := jxw_id (by omega) (by omega)
  refine jt_grd (by omega) ?_
  refine jt_bif (Nat.ble_eq_true_of_le (by omega)) ?_
  have h850_ : jxw (y3 + 3) = y3 + 3 := jxw_id (by omega) (by omega)
  refine jt_grd (by omega) ?_
  refine jt_bI (sp_X11_stamps E d (jd_le hd rfl) (E.2 ((jxw (y3 + 1)).toNat)) (E.2 ((jxw (y3 + 2)).toNat)) (E.2 ((jxw (y3 + 3)).toNat)) a b hv) (fun r851_ a851_ b851_ h851_ => ?_)
  obtain ⟨hv851_, hf851_, rfl, hq851_0, hq851_1⟩ := h851_
  refine jt_eq (bq_law_1087 E d y3 a851_ b) ?_
  refine jt_bif (Nat.ble_eq_true_of_le (by omega)) ?_
  refine jt_grd (by omega) ?_
  refine jt_bif (Nat.ble_eq_true_of_le (by omega)) ?_
  refine jt_grd (by omega) ?_
  refine jt_bif (Nat.ble_eq_true_of_le (by omega)) ?_
  refine jt_grd (by omega) ?_
  refine jt_bI (sp_X12_stamps E d (jd_le hd rfl) (E.2 ((jxw (y3 + 1)).toNat)) (E.2 ((jxw (y3 + 2)).toNat)) (E.2 ((jxw (y3 + 3)).toNat)) a851_ b hv851_ (SV_fr hg1 hf851_ (fun _ => rfl) (fun _ => rfl))) (fun r852_ a852_ b852_ h852_ => ?_)
  obtain ⟨hv852_, hf852_, rfl, hq852_0, hq852_1, hq852_2⟩ := h852_
  refine jt_eq (bq_law_1107 E d y3 a852_ b) ?_
  have h853_ := iv_get hv852_ (k := 4) (j := 6) (l := 0) (u := 40) rfl
  have h854_ : a852_ 4 6 = a851_ 4 6 := hf852_ 4 6 rfl
  have h855_ := iv_get hv851_ (k := 4) (j := 6) (l := 0) (u := 40) rfl
  have h856_ : a851_ 4 6 = a 4 6 := hf851_ 4 6 rfl
  have h857_ := iv_get hv852_ (k := 146) (j := 2) (l := 0) (u := 40) rfl
  have h858_ : a852_ 146 2 = a851_ 146 2 := hf852_ 146 2 rfl
  have h859_ := iv_get hv851_ (k := 146) (j := 2) (l := 0) (u := 40) rfl
  have h860_ : a851_ 146 2 = a 146 2 := hf851_ 146 2 rfl
  have h861_ := iv_get hv852_ (k := 2) (j := 1) (l := 0) (u := 200) rfl
  have h862_ : a852_ 2 1 = a851_ 2 1 := hf852_ 2 1 rfl
  have h863_ := iv_get hv851_ (k := 2) (j := 1) (l := 0) (u := 200) rfl
  have h864_ : a851_ 2 1 = a 2 1 := hf851_ 2 1 rfl
  have h865_ := iv_get hv852_ (k := 146) (j := 22) (l := 0) (u := 200) rfl
  have h866_ : a852_ 146 22 = a851_ 146 22 := hf852_ 146 22 rfl
  have h867_ := iv_get hv851_ (k := 146) (j := 22) (l := 0) (u := 200) rfl
  have h868_ : a851_ 146 22 = a 146 22 := hf851_ 146 22 rfl
  have h869_ := iv_get hv852_ (k := 105) (j := 5) (l := 0) (u := 10) rfl
  have h870_ : a852_ 105 5 = a851_ 105 5 := hf852_ 105 5 rfl
  have h871_ := iv_get hv851_ (k := 105) (j := 5) (l := 0) (u := 10) rfl
  have h872_ : a851_ 105 5 = a 105 5 := hf851_ 105 5 rfl
  have h873_ := iv_get hv852_ (k := 146) (j := 68) (l := 0) (u := 10) rfl
  have h874_ : a852_ 146 68 = a851_ 146 68 := hf852_ 146 68 rfl
  have h875_ := iv_get hv851_ (k := 146) (j := 68) (l := 0) (u := 10) rfl
  have h876_ : a851_ 146 68 = a 146 68 := hf851_ 146 68 rfl
  exact hnext a852_ b hv852_ (WFW_fr (WFW_fr hg0 hf851_ (fun _ => rfl) (fun _ => rfl)) hf852_ (fun _ => rfl) (fun _ => rfl)) hq852_1 (OC_fr (OC_fr hg2 hf851_ rfl rfl (fun _ => rfl) (fun _ => rfl) (fun _ => rfl) (fun _ => rfl) (fun _ => rfl)) hf852_ rfl rfl (fun _ => rfl) (fun _ => rfl) (fun _ => rfl) (fun _ => rfl) (fun _ => rfl)) (FO_fr (FO_fr hg3 hf851_ rfl rfl (fun _ => rfl)) hf852_ rfl rfl (fun _ => rfl)) (FW_fr (FW_fr hg4 hf851_ rfl (fun _ => rfl)) hf852_ rfl (fun _ => rfl)) (TAPE_fr (TAPE_fr hg5 hf851_ (fun _ => rfl) (fun _ => rfl)) hf852_ (fun _ => rfl) (fun _ => rfl)) (show a852_ 4 6 = a852_ 146 2 from by omega) (show a852_ 2 1 = a852_ 146 22 from by omega) (show a852_ 105 5 = a852_ 146 68 from by omega)
theorem lw_op1110 (E : jxE) (d : Nat) (hd : Nat.ble 60 (d + 1) = true) (hL : E.1 ≤ 3072) (y3 : Int) (hy0 : 0 ≤ y3) (hy1 : y3 + 6 ≤ E.1) (hnext : ∀ (a b : Nat → Nat → Int) (hv : iv a) (hg0 : WFW a) (hg1 : SV a) (hg2 : OC a) (hg3 : FO a) (hg4 : FW a) (hg5 : TAPE a) (hr0 : a 4 6 = a 146 2) (hr1 : a 2 1 = a 146 22) (hr2 : a 105 5 = a 146 68), jt (jxX E d 305 1189 [some (.inr (.inr (.inl 3000))), some (.inr (.inr (.inl 0))), some (.inr (.inr (.inl 146))), some (.inl y3)] [] (jxSH, a, b)) (fun v _ _ => v = [.inl 1])) (a b : Nat → Nat → Int) (hv : iv a) (hg0 : WFW a) (hg1 : SV a) (hg2 : OC a) (hg3 : FO a) (hg4 : FW a) (hg5 : TAPE a) (hr0 : a 4 6 = a 146 2) (hr1 : a 2 1 = a 146 22) (hr2 : a 105 5 = a 146 68) : jt (jxX E d 305 1110 [some (.inr (.inr (.inl 3000))), some (.inr (.inr (.inl 0))), some (.inr (.inr (.inl 146))), some (.inl y3)] [] (jxSH, a, b)) (fun v _ _ => v = [.inl 1]) := by
  refine jt_eq (bq_law_1110 E d y3 a b) ?_
  have h877_ := iv_get hv (k := 4) (j := 6) (l := 0) (u := 40) rfl
  have h878_ := iv_get hv (k := 146) (j := 2) (l := 0) (u := 40) rfl
  have h879_ := iv_get hv (k := 2) (j := 1) (l := 0) (u := 200) rfl
  have h880_ := iv_get hv (k := 146) (j := 22) (l := 0) (u := 200) rfl
  have h881_ := iv_get hv (k := 105) (j := 5) (l := 0) (u := 10) rfl
  have h882_ := iv_get hv (k := 146) (j := 68) (l := 0) (u := 10) rfl
  refine jt_bif (Nat.ble_eq_true_of_le (by omega)) ?_
  have h883_ : jxw (y3 + 1) = y3 + 1 := jxw_id (by omega) (by omega)
  refine jt_grd (by omega) ?_
  refine jt_bif (Nat.ble_eq_true_of_le (by omega)) ?_
  have h884_ : jxw (y3 + 2) = y3 + 2 := jxw_id (by omega) (by omega)
  refine jt_grd (by omega) ?_
  refine jt_bI (sp_X11_pay E d (jd_le hd rfl) (E.2 ((jxw (y3 + 1)).toNat)) (E.2 ((jxw (y3 + 2)).toNat)) a b hv) (fun r885_ a885_ b885_ h885_ => ?_)
  obtain ⟨hv885_, hf885_, hq885_0⟩ := h885_
  have h886_ := iv_get hv (k := 58) (j := 8) (l := 0) (u := 300) rfl
  refine jt_eq (bq_law_1125 E d y3 a885_ b885_) ?_
  refine jt_bif (Nat.ble_eq_true_of_le (by omega)) ?_
  refine jt_grd (by omega) ?_
  refine jt_bif (Nat.ble_eq_true_of_le (by omega)) ?_
  refine jt_grd (by omega) ?_
  refine jt_bI (sp_X12_pay E d (jd_le hd rfl) (E.2 ((jxw (y3 + 1)).toNat)) (E.2 ((jxw (y3 + 2)).toNat)) a885_ b885_ hv885_ (SV_fr hg1 hf885_ (fun _ => rfl) (fun _ => rfl))) (fun r887_ a887_ b887_ h887_ => ?_)
  obtain ⟨hv887_, hf887_, rfl, hq887_0, hq887_1⟩ := h887_
  have h888_ := iv_get hv885_ (k := 146) (j := 9) (l := 0) (u := 300) rfl
  have h889_ : a885_ 146 9 = a 146 9 := hf885_ 146 9 rfl
  have h890_ := iv_get hv (k := 146) (j := 9) (l := 0) (u := 300) rfl
  have h891_ := iv_get hv887_ (k := 4) (j := 6) (l := 0) (u := 40) rfl
  have h892_ : a887_ 4 6 = a885_ 4 6 := hf887_ 4 6 rfl
  have h893_ := iv_get hv885_ (k := 4) (j := 6) (l := 0) (u := 40) rfl
  have h894_ : a885_ 4 6 = a 4 6 := hf885_ 4 6 rfl
  have h895_ := iv_get hv887_ (k := 146) (j := 2) (l := 0) (u := 40) rfl
  have h896_ : a887_ 146 2 = a885_ 146 2 := hf887_ 146 2 rfl
  have h897_ := iv_get hv885_ (k := 146) (j := 2) (l := 0) (u := 40) rfl
  have h898_ : a885_ 146 2 = a 146 2 := hf885_ 146 2 rfl
  have h899_ := iv_get hv887_ (k := 2) (j := 1) (l := 0) (u := 200) rfl
  have h900_ : a887_ 2 1 = a885_ 2 1 := hf887_ 2 1 rfl
  have h901_ := iv_get hv885_ (k := 2) (j := 1) (l := 0) (u := 200) rfl
  have h902_ : a885_ 2 1 = a 2 1 := hf885_ 2 1 rfl
  have h903_ := iv_get hv887_ (k := 146) (j := 22) (l := 0) (u := 200) rfl
  have h904_ : a887_ 146 22 = a885_ 146 22 := hf887_ 146 22 rfl
  have h905_ := iv_get hv885_ (k := 146) (j := 22) (l := 0) (u := 200) rfl
  have h906_ : a885_ 146 22 = a 146 22 := hf885_ 146 22 rfl
  have h907_ := iv_get hv887_ (k := 105) (j := 5) (l := 0) (u := 10) rfl
  have h908_ : a887_ 105 5 = a885_ 105 5 := hf887_ 105 5 rfl
  have h909_ := iv_get hv885_ (k := 105) (j := 5) (l := 0) (u := 10) rfl
  have h910_ : a885_ 105 5 = a 105 5 := hf885_ 105 5 rfl
  have h911_ := iv_get hv887_ (k := 146) (j := 68) (l := 0) (u := 10) rfl
  have h912_ : a887_ 146 68 = a885_ 146 68 := hf887_ 146 68 rfl
  have h913_ := iv_get hv885_ (k := 146) (j := 68) (l := 0) (u := 10) rfl
  have h914_ : a885_ 146 68 = a 146 68 := hf885_ 146 68 rfl
  exact hnext a887_ b885_ hv887_ (WFW_fr (WFW_fr hg0 hf885_ (fun _ => rfl) (fun _ => rfl)) hf887_ (fun _ => rfl) (fun _ => rfl)) hq887_0 (OC_fr (OC_fr hg2 hf885_ rfl rfl (fun _ => rfl) (fun _ => rfl) (fun _ => rfl) (fun _ => rfl) (fun _ => rfl)) hf887_ rfl rfl (fun _ => rfl) (fun _ => rfl) (fun _ => rfl) (fun _ => rfl) (fun _ => rfl)) (FO_fr (FO_fr hg3 hf885_ rfl rfl (fun _ => rfl)) hf887_ rfl rfl (fun _ => rfl)) (FW_fr (FW_fr hg4 hf885_ rfl (fun _ => rfl)) hf887_ rfl (fun _ => rfl)) (TAPE_fr (TAPE_fr hg5 hf885_ (fun _ => rfl) (fun _ => rfl)) hf887_ (fun _ => rfl) (fun _ => rfl)) (show a887_ 4 6 = a887_ 146 2 from by omega) (show a887_ 2 1 = a887_ 146 22 from by omega) (show a887_ 105 5 = a887_ 146 68 from by omega)
theorem lw_op1143 (E : jxE) (d : Nat) (hd : Nat.ble 60 (d + 1) = true) (hL : E.1 ≤ 3072) (y3 : Int) (hy0 : 0 ≤ y3) (hy1 : y3 + 6 ≤ E.1) (hnext : ∀ (a b : Nat → Nat → Int) (hv : iv a) (hg0 : WFW a) (hg1 : SV a) (hg2 : OC a) (hg3 : FO a) (hg4 : FW a) (hg5 : TAPE a) (hr0 : a 4 6 = a 146 2) (hr1 : a 2 1 = a 146 22) (hr2 : a 105 5 = a 146 68), jt (jxX E d 305 1189 [some (.inr (.inr (.inl 3000))), some (.inr (.inr (.inl 0))), some (.inr (.inr (.inl 146))), some (.inl y3)] [] (jxSH, a, b)) (fun v _ _ => v = [.inl 1])) (a b : Nat → Nat → Int) (hv : iv a) (hg0 : WFW a) (hg1 : SV a) (hg2 : OC a) (hg3 : FO a) (hg4 : FW a) (hg5 : TAPE a) (hr0 : a 4 6 = a 146 2) (hr1 : a 2 1 = a 146 22) (hr2 : a 105 5 = a 146 68) : jt (jxX E d 305 1143 [some (.inr (.inr (.inl 3000))), some (.inr (.inr (.inl 0))), some (.inr (.inr (.inl 146))), some (.inl y3)] [] (jxSH, a, b)) (fun v _ _ => v = [.inl 1]) := by
  refine jt_eq (bq_law_1143 E d y3 a b) ?_
  have h915_ := iv_get hv (k := 4) (j := 6) (l := 0) (u := 40) rfl
  have h916_ := iv_get hv (k := 146) (j := 2) (l := 0) (u := 40) rfl
  have h917_ := iv_get hv (k := 2) (j := 1) (l := 0) (u := 200) rfl
  have h918_ := iv_get hv (k := 146) (j := 22) (l := 0) (u := 200) rfl
  have h919_ := iv_get hv (k := 105) (j := 5) (l := 0) (u := 10) rfl
  have h920_ := iv_get hv (k := 146) (j := 68) (l := 0) (u := 10) rfl
  refine jt_bif (Nat.ble_eq_true_of_le (by omega)) ?_
  have h921_ : jxw (y3 + 1) = y3 + 1 := jxw_id (by omega) (by omega)
  refine jt_grd (by omega) ?_
  refine jt_eI (eq_X11_paid E d (jd_le hd rfl) (E.2 ((jxw (y3 + 1)).toNat)) a b) ?_
  refine jt_eq (bq_law_1153 E d y3 a b) ?_
  refine jt_bif (Nat.ble_eq_true_of_le (by omega)) ?_
  refine jt_grd (by omega) ?_
  refine jt_eI (eq_X12_paid E d (jd_le hd rfl) (E.2 ((jxw (y3 + 1)).toNat)) a b) ?_
  exact hnext a b hv hg0 hg1 hg2 hg3 hg4 hg5 (show a 4 6 = a 146 2 from by omega) (show a 2 1 = a 146 22 from by omega) (show a 105 5 = a 146 68 from by omega)
theorem lw_op1166 (E : jxE) (d : Nat) (hd : Nat.ble 60 (d + 1) = true) (hL : E.1 ≤ 3072) (y3 : Int) (hy0 : 0 ≤ y3) (hy1 : y3 + 6 ≤ E.1) (hnext : ∀ (a b : Nat → Nat → Int) (hv : iv a) (hg0 : WFW a) (hg1 : SV a) (hg2 : OC a) (hg3 : FO a) (hg4 : FW a) (hg5 : TAPE a) (hr0 : a 4 6 = a 146 2) (hr1 : a 2 1 = a 146 22) (hr2 : a 105 5 = a 146 68), jt (jxX E d 305 1189 [some (.inr (.inr (.inl 3000))), some (.inr (.inr (.inl 0))), some (.inr (.inr (.inl 146))), some (.inl y3)] [] (jxSH, a, b)) (fun v _ _ => v = [.inl 1])) (a b : Nat → Nat → Int) (hv : iv a) (hg0 : WFW a) (hg1 : SV a) (hg2 : OC a) (hg3 : FO a) (hg4 : FW a) (hg5 : TAPE a) (hr0 : a 4 6 = a 146 2) (hr1 : a 2 1 = a 146 22) (hr2 : a 105 5 = a 146 68) : jt (jxX E d 305 1166 [some (.inr (.inr (.inl 3000))), some (.inr (.inr (.inl 0))), some (.inr (.inr (.inl 146))), some (.inl y3)] [] (jxSH, a, b)) (fun v _ _ => v = [.inl 1]) := by
  refine jt_eq (bq_law_1166 E d y3 a b) ?_
  have h922_ := iv_get hv (k := 4) (j := 6) (l := 0) (u := 40) rfl
  have h923_ := iv_get hv (k := 146) (j := 2) (l := 0) (u := 40) rfl
  have h924_ := iv_get hv (k := 2) (j := 1) (l := 0) (u := 200) rfl
  have h925_ := iv_get hv (k := 146) (j := 22) (l := 0) (u := 200) rfl
  have h926_ := iv_get hv (k := 105) (j := 5) (l := 0) (u := 10) rfl
  have h927_ := iv_get hv (k := 146) (j := 68) (l := 0) (u := 10) rfl
  refine jt_bif (Nat.ble_eq_true_of_le (by omega)) ?_
  have h928_ : jxw (y3 + 1) = y3 + 1 := jxw_id (by omega) (by omega)
  refine jt_grd (by omega) ?_
  refine jt_bI (sp_X11_count E d (jd_le hd rfl) (E.2 ((jxw (y3 + 1)).toNat)) a b hv) (fun r929_ a929_ b929_ h929_ => ?_)
  obtain ⟨rfl, rfl, hq929_0, hq929_1, hq929_2, hq929_3, hq929_4, hq929_5, hq929_6, hq929_7, hq929_8, hq929_9, hq929_10, hq929_11, hq929_12, hq929_13, hq929_14, hq929_15, hq929_16, hq929_17⟩ := h929_
  have h930_ := iv_get hv (k := 0) (j := 0) (l := 0) (u := 1999) rfl
  have h931_ := iv_get hv (k := 58) (j := 8) (l := 0) (u := 300) rfl
  have h932_ := iv_get hv (k := 58) (j := 12) (l := 0) (u := 600) rfl
  have h933_ := iv_get hv (k := 83) (j := 6) (l := 0) (u := 20) rfl
  have h934_ := iv_get hv (k := 0) (j := 9) (l := 0) (u := 8) rfl
  refine jt_eq (bq_law_1176 E d y3 a b) ?_
  refine jt_bif (Nat.ble_eq_true_of_le (by omega)) ?_
  refine jt_grd (by omega) ?_
  refine jt_bI (sp_X12_count E d (jd_le hd rfl) (E.2 ((jxw (y3 + 1)).toNat)) a b hv) (fun r935_ a935_ b935_ h935_ => ?_)
  obtain ⟨rfl, rfl, hq935_0, hq935_1, hq935_2, hq935_3, hq935_4, hq935_5, hq935_6, hq935_7, hq935_8, hq935_9, hq935_10, hq935_11, hq935_12, hq935_13⟩ := h935_
  have h936_ := iv_get hv (k := 146) (j := 0) (l := 0) (u := 1999) rfl
  have h937_ := iv_get hv (k := 146) (j := 9) (l := 0) (u := 300) rfl
  have h938_ := iv_get hv (k := 146) (j := 17) (l := 0) (u := 600) rfl
  have h939_ := iv_get hv (k := 146) (j := 49) (l := 0) (u := 20) rfl
  have h940_ := iv_get hv (k := 146) (j := 42) (l := 0) (u := 8) rfl
  exact hnext a b hv hg0 hg1 hg2 hg3 hg4 hg5 (show a 4 6 = a 146 2 from by omega) (show a 2 1 = a 146 22 from by omega) (show a 105 5 = a 146 68 from by omega)
theorem lw_18 (E : jxE) (d : Nat) (hd : Nat.ble 60 (d + 1) = true) (hL : E.1 ≤ 3072) : ∀ n : Nat, ∀ (y3 : Int) (a b : Nat → Nat → Int), ((E.1 : Int) - y3).toNat ≤ n → 0 ≤ y3 → y3 ≤ 3078 → iv a → WFW a → SV a → OC a → FO a → FW a → TAPE a → a 4 6 = a 146 2 → a 2 1 = a 146 22 → a 105 5 = a 146 68 → jt (jxX E d 305 18 [some (.inr (.inr (.inl 3000))), some (.inr (.inr (.inl 0))), some (.inr (.inr (.inl 146))), some (.inl y3)] [] (jxSH, a, b)) (fun v _ _ => v = [.inl 1]) := by
  refine jx_ind fun n ih => ?_
  intro y3 a b hm hy0 hy9 hv hg0 hg1 hg2 hg3 hg4 hg5 hr0 hr1 hr2
  refine jt_eq (bq_law_18 E d y3 a b) ?_
  have hnext0 : y3 + 6 ≤ E.1 → ∀ (a b : Nat → Nat → Int) (hv : iv a) (hg0 : WFW a) (hg1 : SV a) (hg2 : OC a) (hg3 : FO a) (hg4 : FW a) (hg5 : TAPE a) (hr0 : a 4 6 = a 146 2) (hr1 : a 2 1 = a 146 22) (hr2 : a 105 5 = a 146 68), jt (jxX E d 305 1189 [some (.inr (.inr (.inl 3000))), some (.inr (.inr (.inl 0))), some (.inr (.inr (.inl 146))), some (.inl y3)] [] (jxSH, a, b)) (fun v _ _ => v = [.inl 1]) := fun hlt a b hv hg0 hg1 hg2 hg3 hg4 hg5 hr0 hr1 hr2 => by
    refine jt_eq (bq_law_1189 E d y3 a b) ?_
    have e : jxw (y3 + 6) = y3 + 6 := jxw_id (by omega) (by omega)
    rw [e]
    exact ih ((E.1 : Int) - (y3 + 6)).toNat (by omega) (y3 + 6) a b (Nat.le_refl _) (by omega) (by omega) hv hg0 hg1 hg2 hg3 hg4 hg5 hr0 hr1 hr2
  refine jt_bif (Nat.ble_eq_true_of_le (by omega)) ?_
  have e6 : jxw ((E.1 : Int) - 6) = (E.1 : Int) - 6 := jxw_id (by omega) (by omega)
  refine jt_ite (fun c1 => ?_) (fun c1 => ?_)
  · exact ⟨_, _, _, rfl, rfl⟩
  ·
    have hy1 : y3 + 6 ≤ E.1 := by omega
    have hnext := hnext0 hy1
    refine jt_bif (Nat.ble_eq_true_of_le (by omega)) ?_
    refine jt_grd (by omega) ?_
    have h941_ := jxand_r (E.2 (y3.toNat)) 63 (by decide) (by decide)
    refine jt_ite (fun c942_ => ?_) (fun c942_ => ?_)
    ·
      have h943_ := iv_get hv (k := 4) (j := 6) (l := 0) (u := 40) rfl
      have h944_ := iv_get hv (k := 146) (j := 2) (l := 0) (u := 40) rfl
      have h945_ := iv_get hv (k := 2) (j := 1) (l := 0) (u := 200) rfl
      have h946_ := iv_get hv (k := 146) (j := 22) (l := 0) (u := 200) rfl
      have h947_ := iv_get hv (k := 105) (j := 5) (l := 0) (u := 10) rfl
      have h948_ := iv_get hv (k := 146) (j := 68) (l := 0) (u := 10) rfl
      exact hnext a b hv hg0 hg1 hg2 hg3 hg4 hg5 (show a 4 6 = a 146 2 from by omega) (show a 2 1 = a 146 22 from by omega) (show a 105 5 = a 146 68 from by omega)
    ·
      refine jt_ite (fun c949_ => ?_) (fun c949_ => ?_)
      ·
        have h950_ := iv_get hv (k := 4) (j := 6) (l := 0) (u := 40) rfl
        have h951_ := iv_get hv (k := 146) (j := 2) (l := 0) (u := 40) rfl
        have h952_ := iv_get hv (k := 2) (j := 1) (l := 0) (u := 200) rfl
        have h953_ := iv_get hv (k := 146) (j := 22) (l := 0) (u := 200) rfl
        have h954_ := iv_get hv (k := 105) (j := 5) (l := 0) (u := 10) rfl
        have h955_ := iv_get hv (k := 146) (j := 68) (l := 0) (u := 10) rfl
        exact lw_op180 E d hd hL y3 hy0 (by omega) hnext a b hv hg0 hg1 hg2 hg3 hg4 hg5 (show a 4 6 = a 146 2 from by omega) (show a 2 1 = a 146 22 from by omega) (show a 105 5 = a 146 68 from by omega)
      ·
        refine jt_ite (fun c956_ => ?_) (fun c956_ => ?_)
        ·
          have h957_ := iv_get hv (k := 4) (j := 6) (l := 0) (u := 40) rfl
          have h958_ := iv_get hv (k := 146) (j := 2) (l := 0) (u := 40) rfl
          have h959_ := iv_get hv (k := 2) (j := 1) (l := 0) (u := 200) rfl
          have h960_ := iv_get hv (k := 146) (j := 22) (l := 0) (u := 200) rfl
          have h961_ := iv_get hv (k := 105) (j := 5) (l := 0) (u := 10) rfl
          have h962_ := iv_get hv (k := 146) (j := 68) (l := 0) (u := 10) rfl
          exact lw_op203 E d hd hL y3 hy0 (by omega) hnext a b hv hg0 hg1 hg2 hg3 hg4 hg5 (show a 4 6 = a 146 2 from by omega) (show a 2 1 = a 146 22 from by omega) (show a 105 5 = a 146 68 from by omega)
        ·
          refine jt_ite (fun c963_ => ?_) (fun c963_ => ?_)
          ·
            have h964_ := iv_get hv (k := 4) (j := 6) (l := 0) (u := 40) rfl
            have h965_ := iv_get hv (k := 146) (j := 2) (l := 0) (u := 40) rfl
            have h966_ := iv_get hv (k := 2) (j := 1) (l := 0) (u := 200) rfl
            have h967_ := iv_get hv (k := 146) (j := 22) (l := 0) (u := 200) rfl
            have h968_ := iv_get hv (k := 105) (j := 5) (l := 0) (u := 10) rfl
            have h969_ := iv_get hv (k := 146) (j := 68) (l := 0) (u := 10) rfl
            exact lw_op246 E d hd hL y3 hy0 (by omega) hnext a b hv hg0 hg1 hg2 hg3 hg4 hg5 (show a 4 6 = a 146 2 from by omega) (show a 2 1 = a 146 22 from by omega) (show a 105 5 = a 146 68 from by omega)
          ·
            refine jt_ite (fun c970_ => ?_) (fun c970_ => ?_)
            ·
              have h971_ := iv_get hv (k := 4) (j := 6) (l := 0) (u := 40) rfl
              have h972_ := iv_get hv (k := 146) (j := 2) (l := 0) (u := 40) rfl
              have h973_ := iv_get hv (k := 2) (j := 1) (l := 0) (u := 200) rfl
              have h974_ := iv_get hv (k := 146) (j := 22) (l := 0) (u := 200) rfl
              have h975_ := iv_get hv (k := 105) (j := 5) (l := 0) (u := 10) rfl
              have h976_ := iv_get hv (k := 146) (j := 68) (l := 0) (u := 10) rfl
              exact lw_op289 E d hd hL y3 hy0 (by omega) hnext a b hv hg0 hg1 hg2 hg3 hg4 hg5 (show a 4 6 = a 146 2 from by omega) (show a 2 1 = a 146 22 from by omega) (show a 105 5 = a 146 68 from by omega)
            ·
              refine jt_ite (fun c977_ => ?_) (fun c977_ => ?_)
              ·
                have h978_ := iv_get hv (k := 4) (j := 6) (l := 0) (u := 40) rfl
                have h979_ := iv_get hv (k := 146) (j := 2) (l := 0) (u := 40) rfl
                have h980_ := iv_get hv (k := 2) (j := 1) (l := 0) (u := 200) rfl
                have h981_ := iv_get hv (k := 146) (j := 22) (l := 0) (u := 200) rfl
                have h982_ := iv_get hv (k := 105) (j := 5) (l := 0) (u := 10) rfl
                have h983_ := iv_get hv (k := 146) (j := 68) (l := 0) (u := 10) rfl
                exact lw_op312 E d hd hL y3 hy0 (by omega) hnext a b hv hg0 hg1 hg2 hg3 hg4 hg5 (show a 4 6 = a 146 2 from by omega) (show a 2 1 = a 146 22 from by omega) (show a 105 5 = a 146 68 from by omega)
              ·
                refine jt_ite (fun c984_ => ?_) (fun c984_ => ?_)
                ·
                  have h985_ := iv_get hv (k := 4) (j := 6) (l := 0) (u := 40) rfl
                  have h986_ := iv_get hv (k := 146) (j := 2) (l := 0) (u := 40) rfl
                  have h987_ := iv_get hv (k := 2) (j := 1) (l := 0) (u := 200) rfl
                  have h988_ := iv_get hv (k := 146) (j := 22) (l := 0) (u := 200) rfl
                  have h989_ := iv_get hv (k := 105) (j := 5) (l := 0) (u := 10) rfl
                  have h990_ := iv_get hv (k := 146) (j := 68) (l := 0) (u := 10) rfl
                  exact lw_op375 E d hd hL y3 hy0 (by omega) hnext a b hv hg0 hg1 hg2 hg3 hg4 hg5 (show a 4 6 = a 146 2 from by omega) (show a 2 1 = a 146 22 from by omega) (show a 105 5 = a 146 68 from by omega)
                ·
                  refine jt_ite (fun c991_ => ?_) (fun c991_ => ?_)
                  ·
                    have h992_ := iv_get hv (k := 4) (j := 6) (l := 0) (u := 40) rfl
                    have h993_ := iv_get hv (k := 146) (j := 2) (l := 0) (u := 40) rfl
                    have h994_ := iv_get hv (k := 2) (j := 1) (l := 0) (u := 200) rfl
                    have h995_ := iv_get hv (k := 146) (j := 22) (l := 0) (u := 200) rfl
                    have h996_ := iv_get hv (k := 105) (j := 5) (l := 0) (u := 10) rfl
                    have h997_ := iv_get hv (k := 146) (j := 68) (l := 0) (u := 10) rfl
                    exact lw_op398 E d hd hL y3 hy0 (by omega) hnext a b hv hg0 hg1 hg2 hg3 hg4 hg5 (show a 4 6 = a 146 2 from by omega) (show a 2 1 = a 146 22 from by omega) (show a 105 5 = a 146 68 from by omega)
                  ·
                    refine jt_ite (fun c998_ => ?_) (fun c998_ => ?_)
                    ·
                      have h999_ := iv_get hv (k := 4) (j := 6) (l := 0) (u := 40) rfl
                      have h1000_ := iv_get hv (k := 146) (j := 2) (l := 0) (u := 40) rfl
                      have h1001_ := iv_get hv (k := 2) (j := 1) (l := 0) (u := 200) rfl
                      have h1002_ := iv_get hv (k := 146) (j := 22) (l := 0) (u := 200) rfl
                      have h1003_ := iv_get hv (k := 105) (j := 5) (l := 0) (u := 10) rfl
                      have h1004_ := iv_get hv (k := 146) (j := 68) (l := 0) (u := 10) rfl
                      exact lw_op421 E d hd hL y3 hy0 (by omega) hnext a b hv hg0 hg1 hg2 hg3 hg4 hg5 (show a 4 6 = a 146 2 from by omega) (show a 2 1 = a 146 22 from by omega) (show a 105 5 = a 146 68 from by omega)
                    ·
                      refine jt_ite (fun c1005_ => ?_) (fun c1005_ => ?_)
                      ·
                        have h1006_ := iv_get hv (k := 4) (j := 6) (l := 0) (u := 40) rfl
                        have h1007_ := iv_get hv (k := 146) (j := 2) (l := 0) (u := 40) rfl
                        have h1008_ := iv_get hv (k := 2) (j := 1) (l := 0) (u := 200) rfl
                        have h1009_ := iv_get hv (k := 146) (j := 22) (l := 0) (u := 200) rfl
                        have h1010_ := iv_get hv (k := 105) (j := 5) (l := 0) (u := 10) rfl
                        have h1011_ := iv_get hv (k := 146) (j := 68) (l := 0) (u := 10) rfl
                        exact lw_op454 E d hd hL y3 hy0 (by omega) hnext a b hv hg0 hg1 hg2 hg3 hg4 hg5 (show a 4 6 = a 146 2 from by omega) (show a 2 1 = a 146 22 from by omega) (show a 105 5 = a 146 68 from by omega)
                      ·
                        refine jt_ite (fun c1012_ => ?_) (fun c1012_ => ?_)
                        ·
                          have h1013_ := iv_get hv (k := 4) (j := 6) (l := 0) (u := 40) rfl
                          have h1014_ := iv_get hv (k := 146) (j := 2) (l := 0) (u := 40) rfl
                          have h1015_ := iv_get hv (k := 2) (j := 1) (l := 0) (u := 200) rfl
                          have h1016_ := iv_get hv (k := 146) (j := 22) (l := 0) (u := 200) rfl
                          have h1017_ := iv_get hv (k := 105) (j := 5) (l := 0) (u := 10) rfl
                          have h1018_ := iv_get hv (k := 146) (j := 68) (l := 0) (u := 10) rfl
                          exact lw_op467 E d hd hL y3 hy0 (by omega) hnext a b hv hg0 hg1 hg2 hg3 hg4 hg5 (show a 4 6 = a 146 2 from by omega) (show a 2 1 = a 146 22 from by omega) (show a 105 5 = a 146 68 from by omega)
                        ·
                          refine jt_ite (fun c1019_ => ?_) (fun c1019_ => ?_)
                          ·
                            have h1020_ := iv_get hv (k := 4) (j := 6) (l := 0) (u := 40) rfl
                            have h1021_ := iv_get hv (k := 146) (j := 2) (l := 0) (u := 40) rfl
                            have h1022_ := iv_get hv (k := 2) (j := 1) (l := 0) (u := 200) rfl
                            have h1023_ := iv_get hv (k := 146) (j := 22) (l := 0) (u := 200) rfl
                            have h1024_ := iv_get hv (k := 105) (j := 5) (l := 0) (u := 10) rfl
                            have h1025_ := iv_get hv (k := 146) (j := 68) (l := 0) (u := 10) rfl
                            exact lw_op490 E d hd hL y3 hy0 (by omega) hnext a b hv hg0 hg1 hg2 hg3 hg4 hg5 (show a 4 6 = a 146 2 from by omega) (show a 2 1 = a 146 22 from by omega) (show a 105 5 = a 146 68 from by omega)
                          ·
                            refine jt_ite (fun c1026_ => ?_) (fun c1026_ => ?_)
                            ·
                              have h1027_ := iv_get hv (k := 4) (j := 6) (l := 0) (u := 40) rfl
                              have h1028_ := iv_get hv (k := 146) (j := 2) (l := 0) (u := 40) rfl
                              have h1029_ := iv_get hv (k := 2) (j := 1) (l := 0) (u := 200) rfl
                              have h1030_ := iv_get hv (k := 146) (j := 22) (l := 0) (u := 200) rfl
                              have h1031_ := iv_get hv (k := 105) (j := 5) (l := 0) (u := 10) rfl
                              have h1032_ := iv_get hv (k := 146) (j := 68) (l := 0) (u := 10) rfl
                              exact lw_op523 E d hd hL y3 hy0 (by omega) hnext a b hv hg0 hg1 hg2 hg3 hg4 hg5 (show a 4 6 = a 146 2 from by omega) (show a 2 1 = a 146 22 from by omega) (show a 105 5 = a 146 68 from by omega)
                            ·
                              refine jt_ite (fun c1033_ => ?_) (fun c1033_ => ?_)
                              ·
                                have h1034_ := iv_get hv (k := 4) (j := 6) (l := 0) (u := 40) rfl
                                have h1035_ := iv_get hv (k := 146) (j := 2) (l := 0) (u := 40) rfl
                                have h1036_ := iv_get hv (k := 2) (j := 1) (l := 0) (u := 200) rfl
                                have h1037_ := iv_get hv (k := 146) (j := 22) (l := 0) (u := 200) rfl
                                have h1038_ := iv_get hv (k := 105) (j := 5) (l := 0) (u := 10) rfl
                                have h1039_ := iv_get hv (k := 146) (j := 68) (l := 0) (u := 10) rfl
                                exact lw_op546 E d hd hL y3 hy0 (by omega) hnext a b hv hg0 hg1 hg2 hg3 hg4 hg5 (show a 4 6 = a 146 2 from by omega) (show a 2 1 = a 146 22 from by omega) (show a 105 5 = a 146 68 from by omega)
                              ·
                                refine jt_ite (fun c1040_ => ?_) (fun c1040_ => ?_)
                                ·
                                  have h1041_ := iv_get hv (k := 4) (j := 6) (l := 0) (u := 40) rfl
                                  have h1042_ := iv_get hv (k := 146) (j := 2) (l := 0) (u := 40) rfl
                                  have h1043_ := iv_get hv (k := 2) (j := 1) (l := 0) (u := 200) rfl
                                  have h1044_ := iv_get hv (k := 146) (j := 22) (l := 0) (u := 200) rfl
                                  have h1045_ := iv_get hv (k := 105) (j := 5) (l := 0) (u := 10) rfl
                                  have h1046_ := iv_get hv (k := 146) (j := 68) (l := 0) (u := 10) rfl
                                  exact lw_op559 E d hd hL y3 hy0 (by omega) hnext a b hv hg0 hg1 hg2 hg3 hg4 hg5 (show a 4 6 = a 146 2 from by omega) (show a 2 1 = a 146 22 from by omega) (show a 105 5 = a 146 68 from by omega)
                                ·
                                  refine jt_ite (fun c1047_ => ?_) (fun c1047_ => ?_)
                                  ·
                                    have h1048_ := iv_get hv (k := 4) (j := 6) (l := 0) (u := 40) rfl
                                    have h1049_ := iv_get hv (k := 146) (j := 2) (l := 0) (u := 40) rfl
                                    have h1050_ := iv_get hv (k := 2) (j := 1) (l := 0) (u := 200) rfl
                                    have h1051_ := iv_get hv (k := 146) (j := 22) (l := 0) (u := 200) rfl
                                    have h1052_ := iv_get hv (k := 105) (j := 5) (l := 0) (u := 10) rfl
                                    have h1053_ := iv_get hv (k := 146) (j := 68) (l := 0) (u := 10) rfl
                                    exact lw_op592 E d hd hL y3 hy0 (by omega) hnext a b hv hg0 hg1 hg2 hg3 hg4 hg5 (show a 4 6 = a 146 2 from by omega) (show a 2 1 = a 146 22 from by omega) (show a 105 5 = a 146 68 from by omega)
                                  ·
                                    refine jt_ite (fun c1054_ => ?_) (fun c1054_ => ?_)
                                    ·
                                      have h1055_ := iv_get hv (k := 4) (j := 6) (l := 0) (u := 40) rfl
                                      have h1056_ := iv_get hv (k := 146) (j := 2) (l := 0) (u := 40) rfl
                                      have h1057_ := iv_get hv (k := 2) (j := 1) (l := 0) (u := 200) rfl
                                      have h1058_ := iv_get hv (k := 146) (j := 22) (l := 0) (u := 200) rfl
                                      have h1059_ := iv_get hv (k := 105) (j := 5) (l := 0) (u := 10) rfl
                                      have h1060_ := iv_get hv (k := 146) (j := 68) (l := 0) (u := 10) rfl
                                      exact lw_op615 E d hd hL y3 hy0 (by omega) hnext a b hv hg0 hg1 hg2 hg3 hg4 hg5 (show a 4 6 = a 146 2 from by omega) (show a 2 1 = a 146 22 from by omega) (show a 105 5 = a 146 68 from by omega)
                                    ·
                                      refine jt_ite (fun c1061_ => ?_) (fun c1061_ => ?_)
                                      ·
                                        have h1062_ := iv_get hv (k := 4) (j := 6) (l := 0) (u := 40) rfl
                                        have h1063_ := iv_get hv (k := 146) (j := 2) (l := 0) (u := 40) rfl
                                        have h1064_ := iv_get hv (k := 2) (j := 1) (l := 0) (u := 200) rfl
                                        have h1065_ := iv_get hv (k := 146) (j := 22) (l := 0) (u := 200) rfl
                                        have h1066_ := iv_get hv (k := 105) (j := 5) (l := 0) (u := 10) rfl
                                        have h1067_ := iv_get hv (k := 146) (j := 68) (l := 0) (u := 10) rfl
                                        exact lw_op648 E d hd hL y3 hy0 (by omega) hnext a b hv hg0 hg1 hg2 hg3 hg4 hg5 (show a 4 6 = a 146 2 from by omega) (show a 2 1 = a 146 22 from by omega) (show a 105 5 = a 146 68 from by omega)
                                      ·
                                        refine jt_ite (fun c1068_ => ?_) (fun c1068_ => ?_)
                                        ·
                                          have h1069_ := iv_get hv (k := 4) (j := 6) (l := 0) (u := 40) rfl
                                          have h1070_ := iv_get hv (k := 146) (j := 2) (l := 0) (u := 40) rfl
                                          have h1071_ := iv_get hv (k := 2) (j := 1) (l := 0) (u := 200) rfl
                                          have h1072_ := iv_get hv (k := 146) (j := 22) (l := 0) (u := 200) rfl
                                          have h1073_ := iv_get hv (k := 105) (j := 5) (l := 0) (u := 10) rfl
                                          have h1074_ := iv_get hv (k := 146) (j := 68) (l := 0) (u := 10) rfl
                                          exact lw_op691 E d hd hL y3 hy0 (by omega) hnext a b hv hg0 hg1 hg2 hg3 hg4 hg5 (show a 4 6 = a 146 2 from by omega) (show a 2 1 = a 146 22 from by omega) (show a 105 5 = a 146 68 from by omega)
                                        ·
                                          refine jt_ite (fun c1075_ => ?_) (fun c1075_ => ?_)
                                          ·
                                            have h1076_ := iv_get hv (k := 4) (j := 6) (l := 0) (u := 40) rfl
                                            have h1077_ := iv_get hv (k := 146) (j := 2) (l := 0) (u := 40) rfl
                                            have h1078_ := iv_get hv (k := 2) (j := 1) (l := 0) (u := 200) rfl
                                            have h1079_ := iv_get hv (k := 146) (j := 22) (l := 0) (u := 200) rfl
                                            have h1080_ := iv_get hv (k := 105) (j := 5) (l := 0) (u := 10) rfl
                                            have h1081_ := iv_get hv (k := 146) (j := 68) (l := 0) (u := 10) rfl
                                            exact lw_op724 E d hd hL y3 hy0 (by omega) hnext a b hv hg0 hg1 hg2 hg3 hg4 hg5 (show a 4 6 = a 146 2 from by omega) (show a 2 1 = a 146 22 from by omega) (show a 105 5 = a 146 68 from by omega)
                                          ·
                                            refine jt_ite (fun c1082_ => ?_) (fun c1082_ => ?_)
                                            ·
                                              have h1083_ := iv_get hv (k := 4) (j := 6) (l := 0) (u := 40) rfl
                                              have h1084_ := iv_get hv (k := 146) (j := 2) (l := 0) (u := 40) rfl
                                              have h1085_ := iv_get hv (k := 2) (j := 1) (l := 0) (u := 200) rfl
                                              have h1086_ := iv_get hv (k := 146) (j := 22) (l := 0) (u := 200) rfl
                                              have h1087_ := iv_get hv (k := 105) (j := 5) (l := 0) (u := 10) rfl
                                              have h1088_ := iv_get hv (k := 146) (j := 68) (l := 0) (u := 10) rfl
                                              exact lw_op747 E d hd hL y3 hy0 (by omega) hnext a b hv hg0 hg1 hg2 hg3 hg4 hg5 (show a 4 6 = a 146 2 from by omega) (show a 2 1 = a 146 22 from by omega) (show a 105 5 = a 146 68 from by omega)
                                            ·
                                              refine jt_ite (fun c1089_ => ?_) (fun c1089_ => ?_)
                                              ·
                                                have h1090_ := iv_get hv (k := 4) (j := 6) (l := 0) (u := 40) rfl
                                                have h1091_ := iv_get hv (k := 146) (j := 2) (l := 0) (u := 40) rfl
                                                have h1092_ := iv_get hv (k := 2) (j := 1) (l := 0) (u := 200) rfl
                                                have h1093_ := iv_get hv (k := 146) (j := 22) (l := 0) (u := 200) rfl
                                                have h1094_ := iv_get hv (k := 105) (j := 5) (l := 0) (u := 10) rfl
                                                have h1095_ := iv_get hv (k := 146) (j := 68) (l := 0) (u := 10) rfl
                                                exact lw_op790 E d hd hL y3 hy0 (by omega) hnext a b hv hg0 hg1 hg2 hg3 hg4 hg5 (show a 4 6 = a 146 2 from by omega) (show a 2 1 = a 146 22 from by omega) (show a 105 5 = a 146 68 from by omega)
                                              ·
                                                refine jt_ite (fun c1096_ => ?_) (fun c1096_ => ?_)
                                                ·
                                                  have h1097_ := iv_get hv (k := 4) (j := 6) (l := 0) (u := 40) rfl
                                                  have h1098_ := iv_get hv (k := 146) (j := 2) (l := 0) (u := 40) rfl
                                                  have h1099_ := iv_get hv (k := 2) (j := 1) (l := 0) (u := 200) rfl
                                                  have h1100_ := iv_get hv (k := 146) (j := 22) (l := 0) (u := 200) rfl
                                                  have h1101_ := iv_get hv (k := 105) (j := 5) (l := 0) (u := 10) rfl
                                                  have h1102_ := iv_get hv (k := 146) (j := 68) (l := 0) (u := 10) rfl
                                                  exact lw_op833 E d hd hL y3 hy0 (by omega) hnext a b hv hg0 hg1 hg2 hg3 hg4 hg5 (show a 4 6 = a 146 2 from by omega) (show a 2 1 = a 146 22 from by omega) (show a 105 5 = a 146 68 from by omega)
                                                ·
                                                  refine jt_ite (fun c1103_ => ?_) (fun c1103_ => ?_)
                                                  ·
                                                    have h1104_ := iv_get hv (k := 4) (j := 6) (l := 0) (u := 40) rfl
                                                    have h1105_ := iv_get hv (k := 146) (j := 2) (l := 0) (u := 40) rfl
                                                    have h1106_ := iv_get hv (k := 2) (j := 1) (l := 0) (u := 200) rfl
                                                    have h1107_ := iv_get hv (k := 146) (j := 22) (l := 0) (u := 200) rfl
                                                    have h1108_ := iv_get hv (k := 105) (j := 5) (l := 0) (u := 10) rfl
                                                    have h1109_ := iv_get hv (k := 146) (j := 68) (l := 0) (u := 10) rfl
                                                    exact lw_op856 E d hd hL y3 hy0 (by omega) hnext a b hv hg0 hg1 hg2 hg3 hg4 hg5 (show a 4 6 = a 146 2 from by omega) (show a 2 1 = a 146 22 from by omega) (show a 105 5 = a 146 68 from by omega)
                                                  ·
                                                    refine jt_ite (fun c1110_ => ?_) (fun c1110_ => ?_)
                                                    ·
                                                      have h1111_ := iv_get hv (k := 4) (j := 6) (l := 0) (u := 40) rfl
                                                      have h1112_ := iv_get hv (k := 146) (j := 2) (l := 0) (u := 40) rfl
                                                      have h1113_ := iv_get hv (k := 2) (j := 1) (l := 0) (u := 200) rfl
                                                      have h1114_ := iv_get hv (k := 146) (j := 22) (l := 0) (u := 200) rfl
                                                      have h1115_ := iv_get hv (k := 105) (j := 5) (l := 0) (u := 10) rfl
                                                      have h1116_ := iv_get hv (k := 146) (j := 68) (l := 0) (u := 10) rfl
                                                      exact lw_op869 E d hd hL y3 hy0 (by omega) hnext a b hv hg0 hg1 hg2 hg3 hg4 hg5 (show a 4 6 = a 146 2 from by omega) (show a 2 1 = a 146 22 from by omega) (show a 105 5 = a 146 68 from by omega)
                                                    ·
                                                      refine jt_ite (fun c1117_ => ?_) (fun c1117_ => ?_)
                                                      ·
                                                        have h1118_ := iv_get hv (k := 4) (j := 6) (l := 0) (u := 40) rfl
                                                        have h1119_ := iv_get hv (k := 146) (j := 2) (l := 0) (u := 40) rfl
                                                        have h1120_ := iv_get hv (k := 2) (j := 1) (l := 0) (u := 200) rfl
                                                        have h1121_ := iv_get hv (k := 146) (j := 22) (l := 0) (u := 200) rfl
                                                        have h1122_ := iv_get hv (k := 105) (j := 5) (l := 0) (u := 10) rfl
                                                        have h1123_ := iv_get hv (k := 146) (j := 68) (l := 0) (u := 10) rfl
                                                        exact lw_op902 E d hd hL y3 hy0 (by omega) hnext a b hv hg0 hg1 hg2 hg3 hg4 hg5 (show a 4 6 = a 146 2 from by omega) (show a 2 1 = a 146 22 from by omega) (show a 105 5 = a 146 68 from by omega)
                                                      ·
                                                        refine jt_ite (fun c1124_ => ?_) (fun c1124_ => ?_)
                                                        ·
                                                          have h1125_ := iv_get hv (k := 4) (j := 6) (l := 0) (u := 40) rfl
                                                          have h1126_ := iv_get hv (k := 146) (j := 2) (l := 0) (u := 40) rfl
                                                          have h1127_ := iv_get hv (k := 2) (j := 1) (l := 0) (u := 200) rfl
                                                          have h1128_ := iv_get hv (k := 146) (j := 22) (l := 0) (u := 200) rfl
                                                          have h1129_ := iv_get hv (k := 105) (j := 5) (l := 0) (u := 10) rfl
                                                          have h1130_ := iv_get hv (k := 146) (j := 68) (l := 0) (u := 10) rfl
                                                          exact lw_op925 E d hd hL y3 hy0 (by omega) hnext a b hv hg0 hg1 hg2 hg3 hg4 hg5 (show a 4 6 = a 146 2 from by omega) (show a 2 1 = a 146 22 from by omega) (show a 105 5 = a 146 68 from by omega)
                                                        ·
                                                          refine jt_ite (fun c1131_ => ?_) (fun c1131_ => ?_)
                                                          ·
                                                            have h1132_ := iv_get hv (k := 4) (j := 6) (l := 0) (u := 40) rfl
                                                            have h1133_ := iv_get hv (k := 146) (j := 2) (l := 0) (u := 40) rfl
                                                            have h1134_ := iv_get hv (k := 2) (j := 1) (l := 0) (u := 200) rfl
                                                            have h1135_ := iv_get hv (k := 146) (j := 22) (l := 0) (u := 200) rfl
                                                            have h1136_ := iv_get hv (k := 105) (j := 5) (l := 0) (u := 10) rfl
                                                            have h1137_ := iv_get hv (k := 146) (j := 68) (l := 0) (u := 10) rfl
                                                            exact lw_op958 E d hd hL y3 hy0 (by omega) hnext a b hv hg0 hg1 hg2 hg3 hg4 hg5 (show a 4 6 = a 146 2 from by omega) (show a 2 1 = a 146 22 from by omega) (show a 105 5 = a 146 68 from by omega)
                                                          ·
                                                            refine jt_ite (fun c1138_ => ?_) (fun c1138_ => ?_)
                                                            ·
                                                              have h1139_ := iv_get hv (k := 4) (j := 6) (l := 0) (u := 40) rfl
                                                              have h1140_ := iv_get hv (k := 146) (j := 2) (l := 0) (u := 40) rfl
                                                              have h1141_ := iv_get hv (k := 2) (j := 1) (l := 0) (u := 200) rfl
                                                              have h1142_ := iv_get hv (k := 146) (j := 22) (l := 0) (u := 200) rfl
                                                              have h1143_ := iv_get hv (k := 105) (j := 5) (l := 0) (u := 10) rfl
                                                              have h1144_ := iv_get hv (k := 146) (j := 68) (l := 0) (u := 10) rfl
                                                              exact lw_op991 E d hd hL y3 hy0 (by omega) hnext a b hv hg0 hg1 hg2 hg3 hg4 hg5 (show a 4 6 = a 146 2 from by omega) (show a 2 1 = a 146 22 from by omega) (show a 105 5 = a 146 68 from by omega)
                                                            ·
                                                              refine jt_ite (fun c1145_ => ?_) (fun c1145_ => ?_)
                                                              ·
                                                                have h1146_ := iv_get hv (k := 4) (j := 6) (l := 0) (u := 40) rfl
                                                                have h1147_ := iv_get hv (k := 146) (j := 2) (l := 0) (u := 40) rfl
                                                                have h1148_ := iv_get hv (k := 2) (j := 1) (l := 0) (u := 200) rfl
                                                                have h1149_ := iv_get hv (k := 146) (j := 22) (l := 0) (u := 200) rfl
                                                                have h1150_ := iv_get hv (k := 105) (j := 5) (l := 0) (u := 10) rfl
                                                                have h1151_ := iv_get hv (k := 146) (j := 68) (l := 0) (u := 10) rfl
                                                                exact lw_op1014 E d hd hL y3 hy0 (by omega) hnext a b hv hg0 hg1 hg2 hg3 hg4 hg5 (show a 4 6 = a 146 2 from by omega) (show a 2 1 = a 146 22 from by omega) (show a 105 5 = a 146 68 from by omega)
                                                              ·
                                                                refine jt_ite (fun c1152_ => ?_) (fun c1152_ => ?_)
                                                                ·
                                                                  have h1153_ := iv_get hv (k := 4) (j := 6) (l := 0) (u := 40) rfl
                                                                  have h1154_ := iv_get hv (k := 146) (j := 2) (l := 0) (u := 40) rfl
                                                                  have h1155_ := iv_get hv (k := 2) (j := 1) (l := 0) (u := 200) rfl
                                                                  have h1156_ := iv_get hv (k := 146) (j := 22) (l := 0) (u := 200) rfl
                                                                  have h1157_ := iv_get hv (k := 105) (j := 5) (l := 0) (u := 10) rfl
                                                                  have h1158_ := iv_get hv (k := 146) (j := 68) (l := 0) (u := 10) rfl
                                                                  exact lw_op1067 E d hd hL y3 hy0 (by omega) hnext a b hv hg0 hg1 hg2 hg3 hg4 hg5 (show a 4 6 = a 146 2 from by omega) (show a 2 1 = a 146 22 from by omega) (show a 105 5 = a 146 68 from by omega)
                                                                ·
                                                                  refine jt_ite (fun c1159_ => ?_) (fun c1159_ => ?_)
                                                                  ·
                                                                    have h1160_ := iv_get hv (k := 4) (j := 6) (l := 0) (u := 40) rfl
                                                                    have h1161_ := iv_get hv (k := 146) (j := 2) (l := 0) (u := 40) rfl
                                                                    have h1162_ := iv_get hv (k := 2) (j := 1) (l := 0) (u := 200) rfl
                                                                    have h1163_ := iv_get hv (k := 146) (j := 22) (l := 0) (u := 200) rfl
                                                                    have h1164_ := iv_get hv (k := 105) (j := 5) (l := 0) (u := 10) rfl
                                                                    have h1165_ := iv_get hv (k := 146) (j := 68) (l := 0) (u := 10) rfl
                                                                    exact lw_op1110 E d hd hL y3 hy0 (by omega) hnext a b hv hg0 hg1 hg2 hg3 hg4 hg5 (show a 4 6 = a 146 2 from by omega) (show a 2 1 = a 146 22 from by omega) (show a 105 5 = a 146 68 from by omega)
                                                                  ·
                                                                    refine jt_ite (fun c1166_ => ?_) (fun c1166_ => ?_)
                                                                    ·
                                                                      have h1167_ := iv_get hv (k := 4) (j := 6) (l := 0) (u := 40) rfl
                                                                      have h1168_ := iv_get hv (k := 146) (j := 2) (l := 0) (u := 40) rfl
                                                                      have h1169_ := iv_get hv (k := 2) (j := 1) (l := 0) (u := 200) rfl
                                                                      have h1170_ := iv_get hv (k := 146) (j := 22) (l := 0) (u := 200) rfl
                                                                      have h1171_ := iv_get hv (k := 105) (j := 5) (l := 0) (u := 10) rfl
                                                                      have h1172_ := iv_get hv (k := 146) (j := 68) (l := 0) (u := 10) rfl
                                                                      exact lw_op1143 E d hd hL y3 hy0 (by omega) hnext a b hv hg0 hg1 hg2 hg3 hg4 hg5 (show a 4 6 = a 146 2 from by omega) (show a 2 1 = a 146 22 from by omega) (show a 105 5 = a 146 68 from by omega)
                                                                    ·
                                                                      refine jt_ite (fun c1173_ => ?_) (fun c1173_ => ?_)
                                                                      ·
                                                                        have h1174_ := iv_get hv (k := 4) (j := 6) (l := 0) (u := 40) rfl
                                                                        have h1175_ := iv_get hv (k := 146) (j := 2) (l := 0) (u := 40) rfl
                                                                        have h1176_ := iv_get hv (k := 2) (j := 1) (l := 0) (u := 200) rfl
                                                                        have h1177_ := iv_get hv (k := 146) (j := 22) (l := 0) (u := 200) rfl
                                                                        have h1178_ := iv_get hv (k := 105) (j := 5) (l := 0) (u := 10) rfl
                                                                        have h1179_ := iv_get hv (k := 146) (j := 68) (l := 0) (u := 10) rfl
                                                                        exact lw_op1166 E d hd hL y3 hy0 (by omega) hnext a b hv hg0 hg1 hg2 hg3 hg4 hg5 (show a 4 6 = a 146 2 from by omega) (show a 2 1 = a 146 22 from by omega) (show a 105 5 = a 146 68 from by omega)
                                                                      ·
                                                                        exact absurd (by omega : False) id
