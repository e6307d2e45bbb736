theorem jt_bif {c : Bool} {X Y : Option jxR} {Q : List jxV → (Nat → Nat → Int) → (Nat → Nat → Int) → Prop} (hc : c = true) (h : jt X Q) : jt (bif c then X else Y) Q := by
  rw [hc]; exact h
theorem lw_op180 (E : jxE) (d : Nat) (hd : Nat.ble 60 (d + 1) = true) (hL : E.1 ≤ 3072) (y3 : Int) (hy0 : 0 ≤ y3) (hy1 : y3 + 6 ≤ E.1) (hnext : ∀ (a b : Nat → Nat → Int) (hv : iv a) (hg0 : WFW a) (hg1 : SV a) (hg2 : OC a) (hg3 : FO a) (hg4 : FW a) (hg5 : TAPE a) (hr0 : a 4 6 = a 146 2) (hr1 : a 2 1 = a 146 22) (hr2 : a 105 5 = a 146 68), jt (jxX E d 305 1189 [some (.inr (.inr (.inl 3000))), some (.inr (.inr (.inl 0))), some (.inr (.inr (.inl 146))), some (.inl y3)] [] (jxSH, a, b)) (fun v _ _ => v = [.inl 1])) (a b : Nat → Nat → Int) (hv : iv a) (hg0 : WFW a) (hg1 : SV a) (hg2 : OC a) (hg3 : FO a) (hg4 : FW a) (hg5 : TAPE a) (hr0 : a 4 6 = a 146 2) (hr1 : a 2 1 = a 146 22) (hr2 : a 105 5 = a 146 68) : jt (jxX E d 305 180 [some (.inr (.inr (.inl 3000))), some (.inr (.inr (.inl 0))), some (.inr (.inr (.inl 146))), some (.inl y3)] [] (jxSH, a, b)) (fun v _ _ => v = [.inl 1]) := by
  refine jt_eq (bq_law_180 E d y3 a b) ?_
  have h1_ := iv_get hv (k := 4) (j := 6) (l := 0) (u := 40) rfl
  have h2_ := iv_get hv (k := 146) (j := 2) (l := 0) (u := 40) rfl
  have h3_ := iv_get hv (k := 2) (j := 1) (l := 0) (u := 200) rfl
  have h4_ := iv_get hv (k := 146) (j := 22) (l := 0) (u := 200) rfl
  have h5_ := iv_get hv (k := 105) (j := 5) (l := 0) (u := 10) rfl
  have h6_ := iv_get hv (k := 146) (j := 68) (l := 0) (u := 10) rfl
  refine jt_bif (Nat.ble_eq_true_of_le (by omega)) ?_
  have h7_ : jxw (y3 + 1) = y3 + 1 := jxw_id (by omega) (by omega)
  refine jt_grd (by omega) ?_
  refine jt_bI (sp_X11_clock E d (jd_le hd rfl) (E.2 ((jxw (y3 + 1)).toNat)) a b hv) (fun r8_ a8_ b8_ h8_ => ?_)
  obtain ⟨hv8_, hf8_, rfl, hq8_0, hq8_1⟩ := h8_
  have h9_ := iv_get hv (k := 0) (j := 0) (l := 0) (u := 1999) rfl
  have h10_ := iv_get hv8_ (k := 0) (j := 0) (l := 0) (u := 1999) rfl
  refine jt_eq (bq_law_190 E d y3 a8_ b) ?_
  refine jt_bif (Nat.ble_eq_true_of_le (by omega)) ?_
  refine jt_grd (by omega) ?_
  refine jt_bI (sp_X12_clock E d (jd_le hd rfl) (E.2 ((jxw (y3 + 1)).toNat)) a8_ b hv8_) (fun r11_ a11_ b11_ h11_ => ?_)
  obtain ⟨hv11_, hf11_, rfl, hq11_0, hq11_1⟩ := h11_
  have h12_ := iv_get hv8_ (k := 146) (j := 0) (l := 0) (u := 1999) rfl
  have h13_ : a8_ 146 0 = a 146 0 := hf8_ 146 0 rfl
  have h14_ := iv_get hv (k := 146) (j := 0) (l := 0) (u := 1999) rfl
  have h15_ := iv_get hv11_ (k := 146) (j := 0) (l := 0) (u := 1999) rfl
  have h16_ := iv_get hv11_ (k := 4) (j := 6) (l := 0) (u := 40) rfl
  have h17_ : a11_ 4 6 = a8_ 4 6 := hf11_ 4 6 rfl
  have h18_ := iv_get hv8_ (k := 4) (j := 6) (l := 0) (u := 40) rfl
  have h19_ : a8_ 4 6 = a 4 6 := hf8_ 4 6 rfl
  have h20_ := iv_get hv11_ (k := 146) (j := 2) (l := 0) (u := 40) rfl
  have h21_ : a11_ 146 2 = a8_ 146 2 := hf11_ 146 2 rfl
  have h22_ := iv_get hv8_ (k := 146) (j := 2) (l := 0) (u := 40) rfl
  have h23_ : a8_ 146 2 = a 146 2 := hf8_ 146 2 rfl
  have h24_ := iv_get hv11_ (k := 2) (j := 1) (l := 0) (u := 200) rfl
  have h25_ : a11_ 2 1 = a8_ 2 1 := hf11_ 2 1 rfl
  have h26_ := iv_get hv8_ (k := 2) (j := 1) (l := 0) (u := 200) rfl
  have h27_ : a8_ 2 1 = a 2 1 := hf8_ 2 1 rfl
  have h28_ := iv_get hv11_ (k := 146) (j := 22) (l := 0) (u := 200) rfl
  have h29_ : a11_ 146 22 = a8_ 146 22 := hf11_ 146 22 rfl
  have h30_ := iv_get hv8_ (k := 146) (j := 22) (l := 0) (u := 200) rfl
  have h31_ : a8_ 146 22 = a 146 22 := hf8_ 146 22 rfl
  have h32_ := iv_get hv11_ (k := 105) (j := 5) (l := 0) (u := 10) rfl
  have h33_ : a11_ 105 5 = a8_ 105 5 := hf11_ 105 5 rfl
  have h34_ := iv_get hv8_ (k := 105) (j := 5) (l := 0) (u := 10) rfl
  have h35_ : a8_ 105 5 = a 105 5 := hf8_ 105 5 rfl
  have h36_ := iv_get hv11_ (k := 146) (j := 68) (l := 0) (u := 10) rfl
  have h37_ : a11_ 146 68 = a8_ 146 68 := hf11_ 146 68 rfl
  have h38_ := iv_get hv8_ (k := 146) (j := 68) (l := 0) (u := 10) rfl
  have h39_ : a8_ 146 68 = a 146 68 := hf8_ 146 68 rfl
  exact hnext a11_ b hv11_ (WFW_fr (WFW_fr hg0 hf8_ (fun _ => rfl) (fun _ => rfl)) hf11_ (fun _ => rfl) (fun _ => rfl)) (SV_fr (SV_fr hg1 hf8_ (fun _ => rfl) (fun _ => rfl)) hf11_ (fun _ => rfl) (fun _ => rfl)) (OC_fr (OC_fr hg2 hf8_ rfl rfl (fun _ => rfl) (fun _ => rfl) (fun _ => rfl) (fun _ => rfl) (fun _ => rfl)) hf11_ rfl rfl (fun _ => rfl) (fun _ => rfl) (fun _ => rfl) (fun _ => rfl) (fun _ => rfl)) (FO_fr (FO_fr hg3 hf8_ rfl rfl (fun _ => rfl)) hf11_ rfl rfl (fun _ => rfl)) (FW_fr (FW_fr hg4 hf8_ rfl (fun _ => rfl)) hf11_ rfl (fun _ => rfl)) (TAPE_fr (TAPE_fr hg5 hf8_ (fun _ => rfl) (fun _ => rfl)) hf11_ (fun _ => rfl) (fun _ => rfl)) (show a11_ 4 6 = a11_ 146 2 from by omega) (show a11_ 2 1 = a11_ 146 22 from by omega) (show a11_ 105 5 = a11_ 146 68 from by omega)
theorem lw_op203 (E : jxE) (d : Nat) (hd : Nat.ble 60 (d + 1) = true) (hL : E.1 ≤ 3072) (y3 : Int) (hy0 : 0 ≤ y3) (hy1 : y3 + 6 ≤ E.1) (hnext : ∀ (a b : Nat → Nat → Int) (hv : iv a) (hg0 : WFW a) (hg1 : SV a) (hg2 : OC a) (hg3 : FO a) (hg4 : FW a) (hg5 : TAPE a) (hr0 : a 4 6 = a 146 2) (hr1 : a 2 1 = a 146 22) (hr2 : a 105 5 = a 146 68), jt (jxX E d 305 1189 [some (.inr (.inr (.inl 3000))), some (.inr (.inr (.inl 0))), some (.inr (.inr (.inl 146))), some (.inl y3)] [] (jxSH, a, b)) (fun v _ _ => v = [.inl 1])) (a b : Nat → Nat → Int) (hv : iv a) (hg0 : WFW a) (hg1 : SV a) (hg2 : OC a) (hg3 : FO a) (hg4 : FW a) (hg5 : TAPE a) (hr0 : a 4 6 = a 146 2) (hr1 : a 2 1 = a 146 22) (hr2 : a 105 5 = a 146 68) : jt (jxX E d 305 203 [some (.inr (.inr (.inl 3000))), some (.inr (.inr (.inl 0))), some (.inr (.inr (.inl 146))), some (.inl y3)] [] (jxSH, a, b)) (fun v _ _ => v = [.inl 1]) := by
  refine jt_eq (bq_law_203 E d y3 a b) ?_
  have h40_ := iv_get hv (k := 4) (j := 6) (l := 0) (u := 40) rfl
  have h41_ := iv_get hv (k := 146) (j := 2) (l := 0) (u := 40) rfl
  have h42_ := iv_get hv (k := 2) (j := 1) (l := 0) (u := 200) rfl
  have h43_ := iv_get hv (k := 146) (j := 22) (l := 0) (u := 200) rfl
  have h44_ := iv_get hv (k := 105) (j := 5) (l := 0) (u := 10) rfl
  have h45_ := iv_get hv (k := 146) (j := 68) (l := 0) (u := 10) rfl
  refine jt_bif (Nat.ble_eq_true_of_le (by omega)) ?_
  have h46_ : jxw (y3 + 1) = y3 + 1 := jxw_id (by omega) (by omega)
  refine jt_grd (by omega) ?_
  refine jt_bif (Nat.ble_eq_true_of_le (by omega)) ?_
  have h47_ : jxw (y3 + 2) = y3 + 2 := jxw_id (by omega) (by omega)
  refine jt_grd (by omega) ?_
  refine jt_bif (Nat.ble_eq_true_of_le (by omega)) ?_
  have h48_ : jxw (y3 + 3) = y3 + 3 := jxw_id (by omega) (by omega)
  refine jt_grd (by omega) ?_
  refine jt_bI (sp_X11_far E d (jd_le hd rfl) (E.2 ((jxw (y3 + 1)).toNat)) (E.2 ((jxw (y3 + 2)).toNat)) (E.2 ((jxw (y3 + 3)).toNat)) a b hv) (fun r49_ a49_ b49_ h49_ => ?_)
  obtain ⟨hv49_, hf49_, rfl, hq49_0⟩ := h49_
  refine jt_eq (bq_law_223 E d y3 a49_ b) ?_
  refine jt_bif (Nat.ble_eq_true_of_le (by omega)) ?_
  refine jt_grd (by omega) ?_
  refine jt_bif (Nat.ble_eq_true_of_le (by omega)) ?_
  refine jt_grd (by omega) ?_
  refine jt_bif (Nat.ble_eq_true_of_le (by omega)) ?_
  refine jt_grd (by omega) ?_
  refine jt_bI (sp_X12_far E d (jd_le hd rfl) (E.2 ((jxw (y3 + 1)).toNat)) (E.2 ((jxw (y3 + 2)).toNat)) (E.2 ((jxw (y3 + 3)).toNat)) a49_ b hv49_) (fun r50_ a50_ b50_ h50_ => ?_)
  obtain ⟨hv50_, hf50_, rfl, hq50_0⟩ := h50_
  refine jt_eq (bq_law_243 E d y3 a50_ b) ?_
  have h51_ := iv_get hv50_ (k := 4) (j := 6) (l := 0) (u := 40) rfl
  have h52_ : a50_ 4 6 = a49_ 4 6 := hf50_ 4 6 rfl
  have h53_ := iv_get hv49_ (k := 4) (j := 6) (l := 0) (u := 40) rfl
  have h54_ : a49_ 4 6 = a 4 6 := hf49_ 4 6 rfl
  have h55_ := iv_get hv50_ (k := 146) (j := 2) (l := 0) (u := 40) rfl
  have h56_ : a50_ 146 2 = a49_ 146 2 := hf50_ 146 2 rfl
  have h57_ := iv_get hv49_ (k := 146) (j := 2) (l := 0) (u := 40) rfl
  have h58_ : a49_ 146 2 = a 146 2 := hf49_ 146 2 rfl
  have h59_ := iv_get hv50_ (k := 2) (j := 1) (l := 0) (u := 200) rfl
  have h60_ : a50_ 2 1 = a49_ 2 1 := hf50_ 2 1 rfl
  have h61_ := iv_get hv49_ (k := 2) (j := 1) (l := 0) (u := 200) rfl
  have h62_ : a49_ 2 1 = a 2 1 := hf49_ 2 1 rfl
  have h63_ := iv_get hv50_ (k := 146) (j := 22) (l := 0) (u := 200) rfl
  have h64_ : a50_ 146 22 = a49_ 146 22 := hf50_ 146 22 rfl
  have h65_ := iv_get hv49_ (k := 146) (j := 22) (l := 0) (u := 200) rfl
  have h66_ : a49_ 146 22 = a 146 22 := hf49_ 146 22 rfl
  have h67_ := iv_get hv50_ (k := 105) (j := 5) (l := 0) (u := 10) rfl
  have h68_ : a50_ 105 5 = a49_ 105 5 := hf50_ 105 5 rfl
  have h69_ := iv_get hv49_ (k := 105) (j := 5) (l := 0) (u := 10) rfl
  have h70_ : a49_ 105 5 = a 105 5 := hf49_ 105 5 rfl
  have h71_ := iv_get hv50_ (k := 146) (j := 68) (l := 0) (u := 10) rfl
  have h72_ : a50_ 146 68 = a49_ 146 68 := hf50_ 146 68 rfl
  have h73_ := iv_get hv49_ (k := 146) (j := 68) (l := 0) (u := 10) rfl
  have h74_ : a49_ 146 68 = a 146 68 := hf49_ 146 68 rfl
  exact hnext a50_ b hv50_ (WFW_fr (WFW_fr hg0 hf49_ (fun _ => rfl) (fun _ => rfl)) hf50_ (fun _ => rfl) (fun _ => rfl)) (SV_fr (SV_fr hg1 hf49_ (fun _ => rfl) (fun _ => rfl)) hf50_ (fun _ => rfl) (fun _ => rfl)) (OC_fr (OC_fr hg2 hf49_ rfl rfl (fun _ => rfl) (fun _ => rfl) (fun _ => rfl) (fun _ => rfl) (fun _ => rfl)) hf50_ rfl rfl (fun _ => rfl) (fun _ => rfl) (fun _ => rfl) (fun _ => rfl) (fun _ => rfl)) (FO_fr (FO_fr hg3 hf49_ rfl rfl (fun _ => rfl)) hf50_ rfl rfl (fun _ => rfl)) (FW_fr (FW_fr hg4 hf49_ rfl (fun _ => rfl)) hf50_ rfl (fun _ => rfl)) (TAPE_fr (TAPE_fr hg5 hf49_ (fun _ => rfl) (fun _ => rfl)) hf50_ (fun _ => rfl) (fun _ => rfl)) (show a50_ 4 6 = a50_ 146 2 from by omega) (show a50_ 2 1 = a50_ 146 22 from by omega) (show a50_ 105 5 = a50_ 146 68 from by omega)
theorem lw_op246 (E : jxE) (d : Nat) (hd : Nat.ble 60 (d + 1) = true) (hL : E.1 ≤ 3072) (y3 : Int) (hy0 : 0 ≤ y3) (hy1 : y3 + 6 ≤ E.1) (hnext : ∀ (a b : Nat → Nat → Int) (hv : iv a) (hg0 : WFW a) (hg1 : SV a) (hg2 : OC a) (hg3 : FO a) (hg4 : FW a) (hg5 : TAPE a) (hr0 : a 4 6 = a 146 2) (hr1 : a 2 1 = a 146 22) (hr2 : a 105 5 = a 146 68), jt (jxX E d 305 1189 [some (.inr (.inr (.inl 3000))), some (.inr (.inr (.inl 0))), some (.inr (.inr (.inl 146))), some (.inl y3)] [] (jxSH, a, b)) (fun v _ _ => v = [.inl 1])) (a b : Nat → Nat → Int) (hv : iv a) (hg0 : WFW a) (hg1 : SV a) (hg2 : OC a) (hg3 : FO a) (hg4 : FW a) (hg5 : TAPE a) (hr0 : a 4 6 = a 146 2) (hr1 : a 2 1 = a 146 22) (hr2 : a 105 5 = a 146 68) : jt (jxX E d 305 246 [some (.inr (.inr (.inl 3000))), some (.inr (.inr (.inl 0))), some (.inr (.inr (.inl 146))), some (.inl y3)] [] (jxSH, a, b)) (fun v _ _ => v = [.inl 1]) := by
  refine jt_eq (bq_law_246 E d y3 a b) ?_
  have h75_ := iv_get hv (k := 4) (j := 6) (l := 0) (u := 40) rfl
  have h76_ := iv_get hv (k := 146) (j := 2) (l := 0) (u := 40) rfl
  have h77_ := iv_get hv (k := 2) (j := 1) (l := 0) (u := 200) rfl
  have h78_ := iv_get hv (k := 146) (j := 22) (l := 0) (u := 200) rfl
  have h79_ := iv_get hv (k := 105) (j := 5) (l := 0) (u := 10) rfl
  have h80_ := iv_get hv (k := 146) (j := 68) (l := 0) (u := 10) rfl
  refine jt_bif (Nat.ble_eq_true_of_le (by omega)) ?_
  have h81_ : jxw (y3 + 1) = y3 + 1 := jxw_id (by omega) (by omega)
  refine jt_grd (by omega) ?_
  refine jt_bif (Nat.ble_eq_true_of_le (by omega)) ?_
  have h82_ : jxw (y3 + 2) = y3 + 2 := jxw_id (by omega) (by omega)
  refine jt_grd (by omega) ?_
  refine jt_bif (Nat.ble_eq_true_of_le (by omega)) ?_
  have h83_ : jxw (y3 + 3) = y3 + 3 := jxw_id (by omega) (by omega)
  refine jt_grd (by omega) ?_
  refine jt_bI (sp_X11_member E d (jd_le hd rfl) (E.2 ((jxw (y3 + 1)).toNat)) (E.2 ((jxw (y3 + 2)).toNat)) (E.2 ((jxw (y3 + 3)).toNat)) a b hv) (fun r84_ a84_ b84_ h84_ => ?_)
  obtain ⟨hv84_, hf84_, rfl, hq84_0, hq84_1, hq84_2⟩ := h84_
  have h85_ := iv_get hv84_ (k := 4) (j := 6) (l := 0) (u := 40) rfl
  refine jt_eq (bq_law_266 E d y3 a84_ b) ?_
  refine jt_bif (Nat.ble_eq_true_of_le (by omega)) ?_
  refine jt_grd (by omega) ?_
  refine jt_bif (Nat.ble_eq_true_of_le (by omega)) ?_
  refine jt_grd (by omega) ?_
  refine jt_bif (Nat.ble_eq_true_of_le (by omega)) ?_
  refine jt_grd (by omega) ?_
  refine jt_bI (sp_X12_member E d (jd_le hd rfl) (E.2 ((jxw (y3 + 1)).toNat)) (E.2 ((jxw (y3 + 2)).toNat)) (E.2 ((jxw (y3 + 3)).toNat)) a84_ b hv84_) (fun r86_ a86_ b86_ h86_ => ?_)
  obtain ⟨hv86_, hf86_, rfl, hq86_0, hq86_1, hq86_2⟩ := h86_
  have h87_ := iv_get hv84_ (k := 146) (j := 2) (l := 0) (u := 40) rfl
  have h88_ : a84_ 146 2 = a 146 2 := hf84_ 146 2 rfl
  have h89_ := iv_get hv86_ (k := 146) (j := 2) (l := 0) (u := 40) rfl
  refine jt_eq (bq_law_286 E d y3 a86_ b) ?_
  have h90_ := iv_get hv86_ (k := 4) (j := 6) (l := 0) (u := 40) rfl
  have h91_ : a86_ 4 6 = a84_ 4 6 := hf86_ 4 6 rfl
  have h92_ := iv_get hv86_ (k := 2) (j := 1) (l := 0) (u := 200) rfl
  have h93_ : a86_ 2 1 = a84_ 2 1 := hf86_ 2 1 rfl
  have h94_ := iv_get hv84_ (k := 2) (j := 1) (l := 0) (u := 200) rfl
  have h95_ : a84_ 2 1 = a 2 1 := hf84_ 2 1 rfl
  have h96_ := iv_get hv86_ (k := 146) (j := 22) (l := 0) (u := 200) rfl
  have h97_ : a86_ 146 22 = a84_ 146 22 := hf86_ 146 22 rfl
  have h98_ := iv_get hv84_ (k := 146) (j := 22) (l := 0) (u := 200) rfl
  have h99_ : a84_ 146 22 = a 146 22 := hf84_ 146 22 rfl
  have h100_ := iv_get hv86_ (k := 105) (j := 5) (l := 0) (u := 10) rfl
  have h101_ : a86_ 105 5 = a84_ 105 5 := hf86_ 105 5 rfl
  have h102_ := iv_get hv84_ (k := 105) (j := 5) (l := 0) (u := 10) rfl
  have h103_ : a84_ 105 5 = a 105 5 := hf84_ 105 5 rfl
  have h104_ := iv_get hv86_ (k := 146) (j := 68) (l := 0) (u := 10) rfl
  have h105_ : a86_ 146 68 = a84_ 146 68 := hf86_ 146 68 rfl
  have h106_ := iv_get hv84_ (k := 146) (j := 68) (l := 0) (u := 10) rfl
  have h107_ : a84_ 146 68 = a 146 68 := hf84_ 146 68 rfl
  exact hnext a86_ b hv86_ (WFW_fr (WFW_fr hg0 hf84_ (fun _ => rfl) (fun _ => rfl)) hf86_ (fun _ => rfl) (fun _ => rfl)) (SV_fr (SV_fr hg1 hf84_ (fun _ => rfl) (fun _ => rfl)) hf86_ (fun _ => rfl) (fun _ => rfl)) (OC_fr (OC_fr hg2 hf84_ rfl rfl (fun _ => rfl) (fun _ => rfl) (fun _ => rfl) (fun _ => rfl) (fun _ => rfl)) hf86_ rfl rfl (fun _ => rfl) (fun _ => rfl) (fun _ => rfl) (fun _ => rfl) (fun _ => rfl)) (FO_fr (FO_fr hg3 hf84_ rfl rfl (fun _ => rfl)) hf86_ rfl rfl (fun _ => rfl)) (FW_fr (FW_fr hg4 hf84_ rfl (fun _ => rfl)) hf86_ rfl (fun _ => rfl)) (TAPE_fr (TAPE_fr hg5 hf84_ (fun _ => rfl) (fun _ => rfl)) hf86_ (fun _ => rfl) (fun _ => rfl)) (show a86_ 4 6 = a86_ 146 2 from by omega) (show a86_ 2 1 = a86_ 146 22 from by omega) (show a86_ 105 5 = a86_ 146 68 from by omega)
theorem lw_op289 (E : jxE) (d : Nat) (hd : Nat.ble 60 (d + 1) = true) (hL : E.1 ≤ 3072) (y3 : Int) (hy0 : 0 ≤ y3) (hy1 : y3 + 6 ≤ E.1) (hnext : ∀ (a b : Nat → Nat → Int) (hv : iv a) (hg0 : WFW a) (hg1 : SV a) (hg2 : OC a) (hg3 : FO a) (hg4 : FW a) (hg5 : TAPE a) (hr0 : a 4 6 = a 146 2) (hr1 : a 2 1 = a 146 22) (hr2 : a 105 5 = a 146 68), jt (jxX E d 305 1189 [some (.inr (.inr (.inl 3000))), some (.inr (.inr (.inl 0))), some (.inr (.inr (.inl 146))), some (.inl y3)] [] (jxSH, a, b)) (fun v _ _ => v = [.inl 1])) (a b : Nat → Nat → Int) (hv : iv a) (hg0 : WFW a) (hg1 : SV a) (hg2 : OC a) (hg3 : FO a) (hg4 : FW a) (hg5 : TAPE a) (hr0 : a 4 6 = a 146 2) (hr1 : a 2 1 = a 146 22) (hr2 : a 105 5 = a 146 68) : jt (jxX E d 305 289 [some (.inr (.inr (.inl 3000))), some (.inr (.inr (.inl 0))), some (.inr (.inr (.inl 146))), some (.inl y3)] [] (jxSH, a, b)) (fun v _ _ => v = [.inl 1]) := by
  refine jt_eq (bq_law_289 E d y3 a b) ?_
  have h108_ := iv_get hv (k := 4) (j := 6) (l := 0) (u := 40) rfl
  have h109_ := iv_get hv (k := 146) (j := 2) (l := 0) (u := 40) rfl
  have h110_ := iv_get hv (k := 2) (j := 1) (l := 0) (u := 200) rfl
  have h111_ := iv_get hv (k := 146) (j := 22) (l := 0) (u := 200) rfl
  have h112_ := iv_get hv (k := 105) (j := 5) (l := 0) (u := 10) rfl
  have h113_ := iv_get hv (k := 146) (j := 68) (l := 0) (u := 10) rfl
  refine jt_bif (Nat.ble_eq_true_of_le (by omega)) ?_
  have h114_ : jxw (y3 + 1) = y3 + 1 := jxw_id (by omega) (by omega)
  refine jt_grd (by omega) ?_
  refine jt_bI (sp_X11_leave E d (jd_le hd rfl) (E.2 ((jxw (y3 + 1)).toNat)) a b hv) (fun r115_ a115_ b115_ h115_ => ?_)
  obtain ⟨hv115_, hf115_, rfl, hq115_0, hq115_1, hq115_2⟩ := h115_
  refine jt_eq (bq_law_299 E d y3 a115_ b) ?_
  refine jt_bif (Nat.ble_eq_true_of_le (by omega)) ?_
  refine jt_grd (by omega) ?_
  refine jt_bI (sp_X12_leave E d (jd_le hd rfl) (E.2 ((jxw (y3 + 1)).toNat)) a115_ b hv115_ (OC_fr hg2 hf115_ rfl rfl (fun _ => rfl) (fun _ => rfl) (fun _ => rfl) (fun _ => rfl) (fun _ => rfl))) (fun r116_ a116_ b116_ h116_ => ?_)
  obtain ⟨hv116_, hf116_, rfl, hq116_0, hq116_1, hq116_2, hq116_3⟩ := h116_
  have h117_ := iv_get hv115_ (k := 146) (j := 2) (l := 0) (u := 40) rfl
  have h118_ : a115_ 146 2 = a 146 2 := hf115_ 146 2 rfl
  have h119_ := iv_get hv116_ (k := 4) (j := 6) (l := 0) (u := 40) rfl
  have h120_ : a116_ 4 6 = a115_ 4 6 := hf116_ 4 6 rfl
  have h121_ := iv_get hv115_ (k := 4) (j := 6) (l := 0) (u := 40) rfl
  have h122_ : a115_ 4 6 = a 4 6 := hf115_ 4 6 rfl
  have h123_ := iv_get hv116_ (k := 146) (j := 2) (l := 0) (u := 40) rfl
  have h124_ : a116_ 146 2 = a115_ 146 2 := hf116_ 146 2 rfl
  have h125_ := iv_get hv116_ (k := 2) (j := 1) (l := 0) (u := 200) rfl
  have h126_ : a116_ 2 1 = a115_ 2 1 := hf116_ 2 1 rfl
  have h127_ := iv_get hv115_ (k := 2) (j := 1) (l := 0) (u := 200) rfl
  have h128_ : a115_ 2 1 = a 2 1 := hf115_ 2 1 rfl
  have h129_ := iv_get hv116_ (k := 146) (j := 22) (l := 0) (u := 200) rfl
  have h130_ : a116_ 146 22 = a115_ 146 22 := hf116_ 146 22 rfl
  have h131_ := iv_get hv115_ (k := 146) (j := 22) (l := 0) (u := 200) rfl
  have h132_ : a115_ 146 22 = a 146 22 := hf115_ 146 22 rfl
  have h133_ := iv_get hv116_ (k := 105) (j := 5) (l := 0) (u := 10) rfl
  have h134_ : a116_ 105 5 = a115_ 105 5 := hf116_ 105 5 rfl
  have h135_ := iv_get hv115_ (k := 105) (j := 5) (l := 0) (u := 10) rfl
  have h136_ : a115_ 105 5 = a 105 5 := hf115_ 105 5 rfl
  have h137_ := iv_get hv116_ (k := 146) (j := 68) (l := 0) (u := 10) rfl
  have h138_ : a116_ 146 68 = a115_ 146 68 := hf116_ 146 68 rfl
  have h139_ := iv_get hv115_ (k := 146) (j := 68) (l := 0) (u := 10) rfl
  have h140_ : a115_ 146 68 = a 146 68 := hf115_ 146 68 rfl
  exact hnext a116_ b hv116_ (WFW_fr (WFW_fr hg0 hf115_ (fun _ => rfl) (fun _ => rfl)) hf116_ (fun _ => rfl) (fun _ => rfl)) (SV_fr (SV_fr hg1 hf115_ (fun _ => rfl) (fun _ => rfl)) hf116_ (fun _ => rfl) (fun _ => rfl)) hq116_0 (FO_fr (FO_fr hg3 hf115_ rfl rfl (fun _ => rfl)) hf116_ rfl rfl (fun _ => rfl)) (FW_fr (FW_fr hg4 hf115_ rfl (fun _ => rfl)) hf116_ rfl (fun _ => rfl)) (TAPE_fr (TAPE_fr hg5 hf115_ (fun _ => rfl) (fun _ => rfl)) hf116_ (fun _ => rfl) (fun _ => rfl)) (show a116_ 4 6 = a116_ 146 2 from by omega) (show a116_ 2 1 = a116_ 146 22 from by omega) (show a116_ 105 5 = a116_ 146 68 from by omega)
theorem lw_op312 (E : jxE) (d : Nat) (hd : Nat.ble 60 (d + 1) = true) (hL : E.1 ≤ 3072) (y3 : Int) (hy0 : 0 ≤ y3) (hy1 : y3 + 6 ≤ E.1) (hnext : ∀ (a b : Nat → Nat → Int) (hv : iv a) (hg0 : WFW a) (hg1 : SV a) (hg2 : OC a) (hg3 : FO a) (hg4 : FW a) (hg5 : TAPE a) (hr0 : a 4 6 = a 146 2) (hr1 : a 2 1 = a 146 22) (hr2 : a 105 5 = a 146 68), jt (jxX E d 305 1189 [some (.inr (.inr (.inl 3000))), some (.inr (.inr (.inl 0))), some (.inr (.inr (.inl 146))), some (.inl y3)] [] (jxSH, a, b)) (fun v _ _ => v = [.inl 1])) (a b : Nat → Nat → Int) (hv : iv a) (hg0 : WFW a) (hg1 : SV a) (hg2 : OC a) (hg3 : FO a) (hg4 : FW a) (hg5 : TAPE a) (hr0 : a 4 6 = a 146 2) (hr1 : a 2 1 = a 146 22) (hr2 : a 105 5 = a 146 68) : jt (jxX E d 305 312 [some (.inr (.inr (.inl 3000))), some (.inr (.inr (.inl 0))), some (.inr (.inr (.inl 146))), some (.inl y3)] [] (jxSH, a, b)) (fun v _ _ => v = [.inl 1]) := by
  refine jt_eq (bq_law_312 E d y3 a b) ?_
  have h141_ := iv_get hv (k := 4) (j := 6) (l := 0) (u := 40) rfl
  have h142_ := iv_get hv (k := 146) (j := 2) (l := 0) (u := 40) rfl
  have h143_ := iv_get hv (k := 2) (j := 1) (l := 0) (u := 200) rfl
  have h144_ := iv_get hv (k := 146) (j := 22) (l := 0) (u := 200) rfl
  have h145_ := iv_get hv (k := 105) (j := 5) (l := 0) (u := 10) rfl
  have h146_ := iv_get hv (k := 146) (j := 68) (l := 0) (u := 10) rfl
  refine jt_bif (Nat.ble_eq_true_of_le (by omega)) ?_
  have h147_ : jxw (y3 + 1) = y3 + 1 := jxw_id (by omega) (by omega)
  refine jt_grd (by omega) ?_
  refine jt_bif (Nat.ble_eq_true_of_le (by omega)) ?_
  have h148_ : jxw (y3 + 2) = y3 + 2 := jxw_id (by omega) (by omega)
  refine jt_grd (by omega) ?_
  refine jt_bif (Nat.ble_eq_true_of_le (by omega)) ?_
  have h149_ : jxw (y3 + 3) = y3 + 3 := jxw_id (by omega) (by omega)
  refine jt_grd (by omega) ?_
  refine jt_bif (Nat.ble_eq_true_of_le (by omega)) ?_
  have h150_ : jxw (y3 + 4) = y3 + 4 := jxw_id (by omega) (by omega)
  refine jt_grd (by omega) ?_
  refine jt_bif (Nat.ble_eq_true_of_le (by omega)) ?_
  have h151_ : jxw (y3 + 5) = y3 + 5 := jxw_id (by omega) (by omega)
  refine jt_grd (by omega) ?_
  refine jt_bI (sp_X11_feed E d (jd_le hd rfl) (E.2 ((jxw (y3 + 1)).toNat)) (E.2 ((jxw (y3 + 2)).toNat)) (E.2 ((jxw (y3 + 3)).toNat)) (E.2 ((jxw (y3 + 4)).toNat)) (E.2 ((jxw (y3 + 5)).toNat)) a b hv) (fun r152_ a152_ b152_ h152_ => ?_)
  obtain ⟨hv152_, hf152_, rfl, hq152_0, hq152_1, hq152_2⟩ := h152_
  have h153_ := iv_get hv152_ (k := 2) (j := 1) (l := 0) (u := 200) rfl
  refine jt_eq (bq_law_342 E d y3 a152_ b) ?_
  refine jt_bif (Nat.ble_eq_true_of_le (by omega)) ?_
  refine jt_grd (by omega) ?_
  refine jt_bif (Nat.ble_eq_true_of_le (by omega)) ?_
  refine jt_grd (by omega) ?_
  refine jt_bif (Nat.ble_eq_true_of_le (by omega)) ?_
  refine jt_grd (by omega) ?_
  refine jt_bif (Nat.ble_eq_true_of_le (by omega)) ?_
  refine jt_grd (by omega) ?_
  refine jt_bif (Nat.ble_eq_true_of_le (by omega)) ?_
  refine jt_grd (by omega) ?_
  refine jt_bI (sp_X12_feed E d (jd_le hd rfl) (E.2 ((jxw (y3 + 1)).toNat)) (E.2 ((jxw (y3 + 2)).toNat)) (E.2 ((jxw (y3 + 3)).toNat)) (E.2 ((jxw (y3 + 4)).toNat)) (E.2 ((jxw (y3 + 5)).toNat)) a152_ b hv152_) (fun r154_ a154_ b154_ h154_ => ?_)
  obtain ⟨hv154_, hf154_, rfl, hq154_0, hq154_1, hq154_2⟩ := h154_
  have h155_ := iv_get hv152_ (k := 146) (j := 22) (l := 0) (u := 200) rfl
  have h156_ : a152_ 146 22 = a 146 22 := hf152_ 146 22 rfl
  have h157_ := iv_get hv154_ (k := 146) (j := 22) (l := 0) (u := 200) rfl
  have hT154 : TAPE a154_ := TAPE_feed hg5 hr1 hq152_1 hq152_2 (fun j => hf152_ 164 j rfl) (hf152_ 146 22 rfl) hq154_1 hq154_2 (fun j => hf154_ 3 j rfl)
  refine jt_eq (bq_law_372 E d y3 a154_ b) ?_
  have h158_ := iv_get hv154_ (k := 4) (j := 6) (l := 0) (u := 40) rfl
  have h159_ : a154_ 4 6 = a152_ 4 6 := hf154_ 4 6 rfl
  have h160_ := iv_get hv152_ (k := 4) (j := 6) (l := 0) (u := 40) rfl
  have h161_ : a152_ 4 6 = a 4 6 := hf152_ 4 6 rfl
  have h162_ := iv_get hv154_ (k := 146) (j := 2) (l := 0) (u := 40) rfl
  have h163_ : a154_ 146 2 = a152_ 146 2 := hf154_ 146 2 rfl
  have h164_ := iv_get hv152_ (k := 146) (j := 2) (l := 0) (u := 40) rfl
  have h165_ : a152_ 146 2 = a 146 2 := hf152_ 146 2 rfl
  have h166_ := iv_get hv154_ (k := 2) (j := 1) (l := 0) (u := 200) rfl
  have h167_ : a154_ 2 1 = a152_ 2 1 := hf154_ 2 1 rfl
  have h168_ := iv_get hv154_ (k := 105) (j := 5) (l := 0) (u := 10) rfl
  have h169_ : a154_ 105 5 = a152_ 105 5 := hf154_ 105 5 rfl
  have h170_ := iv_get hv152_ (k := 105) (j := 5) (l := 0) (u := 10) rfl
  have h171_ : a152_ 105 5 = a 105 5 := hf152_ 105 5 rfl
  have h172_ := iv_get hv154_ (k := 146) (j := 68) (l := 0) (u := 10) rfl
  have h173_ : a154_ 146 68 = a152_ 146 68 := hf154_ 146 68 rfl
  have h174_ := iv_get hv152_ (k := 146) (j := 68) (l := 0) (u := 10) rfl
  have h175_ : a152_ 146 68 = a 146 68 := hf152_ 146 68 rfl
  exact hnext a154_ b hv154_ (WFW_fr (WFW_fr hg0 hf152_ (fun _ => rfl) (fun _ => rfl)) hf154_ (fun _ => rfl) (fun _ => rfl)) (SV_fr (SV_fr hg1 hf152_ (fun _ => rfl) (fun _ => rfl)) hf154_ (fun _ => rfl) (fun _ => rfl)) (OC_fr (OC_fr hg2 hf152_ rfl rfl (fun _ => rfl) (fun _ => rfl) (fun _ => rfl) (fun _ => rfl) (fun _ => rfl)) hf154_ rfl rfl (fun _ => rfl) (fun _ => rfl) (fun _ => rfl) (fun _ => rfl) (fun _ => rfl)) (FO_fr (FO_fr hg3 hf152_ rfl rfl (fun _ => rfl)) hf154_ rfl rfl (fun _ => rfl)) (FW_fr (FW_fr hg4 hf152_ rfl (fun _ => rfl)) hf154_ rfl (fun _ => rfl)) hT154 (show a154_ 4 6 = a154_ 146 2 from by omega) (show a154_ 2 1 = a154_ 146 22 from by omega) (show a154_ 105 5 = a154_ 146 68 from by omega)
theorem lw_op375 (E : jxE) (d : Nat) (hd : Nat.ble 60 (d + 1) = true) (hL : E.1 ≤ 3072) (y3 : Int) (hy0 : 0 ≤ y3) (hy1 : y3 + 6 ≤ E.1) (hnext : ∀ (a b : Nat → Nat → Int) (hv : iv a) (hg0 : WFW a) (hg1 : SV a) (hg2 : OC a) (hg3 : FO a) (hg4 : FW a) (hg5 : TAPE a) (hr0 : a 4 6 = a 146 2) (hr1 : a 2 1 = a 146 22) (hr2 : a 105 5 = a 146 68), jt (jxX E d 305 1189 [some (.inr (.inr (.inl 3000))), some (.inr (.inr (.inl 0))), some (.inr (.inr (.inl 146))), some (.inl y3)] [] (jxSH, a, b)) (fun v _ _ => v = [.inl 1])) (a b : Nat → Nat → Int) (hv : iv a) (hg0 : WFW a) (hg1 : SV a) (hg2 : OC a) (hg3 : FO a) (hg4 : FW a) (hg5 : TAPE a) (hr0 : a 4 6 = a 146 2) (hr1 : a 2 1 = a 146 22) (hr2 : a 105 5 = a 146 68) : jt (jxX E d 305 375 [some (.inr (.inr (.inl 3000))), some (.inr (.inr (.inl 0))), some (.inr (.inr (.inl 146))), some (.inl y3)] [] (jxSH, a, b)) (fun v _ _ => v = [.inl 1]) := by
  refine jt_eq (bq_law_375 E d y3 a b) ?_
  have h176_ := iv_get hv (k := 4) (j := 6) (l := 0) (u := 40) rfl
  have h177_ := iv_get hv (k := 146) (j := 2) (l := 0) (u := 40) rfl
  have h178_ := iv_get hv (k := 2) (j := 1) (l := 0) (u := 200) rfl
  have h179_ := iv_get hv (k := 146) (j := 22) (l := 0) (u := 200) rfl
  have h180_ := iv_get hv (k := 105) (j := 5) (l := 0) (u := 10) rfl
  have h181_ := iv_get hv (k := 146) (j := 68) (l := 0) (u := 10) rfl
  refine jt_bif (Nat.ble_eq_true_of_le (by omega)) ?_
  have h182_ : jxw (y3 + 1) = y3 + 1 := jxw_id (by omega) (by omega)
  refine jt_grd (by omega) ?_
  refine jt_bI (sp_X11_end E d (jd_le hd rfl) (E.2 ((jxw (y3 + 1)).toNat)) a b hv) (fun r183_ a183_ b183_ h183_ => ?_)
  obtain ⟨hv183_, hf183_, rfl, hq183_0⟩ := h183_
  have h184_ := iv_get hv183_ (k := 2) (j := 1) (l := 0) (u := 200) rfl
  refine jt_eq (bq_law_385 E d y3 a183_ b) ?_
  refine jt_bif (Nat.ble_eq_true_of_le (by omega)) ?_
  refine jt_grd (by omega) ?_
  refine jt_bI (sp_X12_end E d (jd_le hd rfl) (E.2 ((jxw (y3 + 1)).toNat)) a183_ b hv183_) (fun r185_ a185_ b185_ h185_ => ?_)
  obtain ⟨hv185_, hf185_, rfl, hq185_0⟩ := h185_
  have h186_ := iv_get hv183_ (k := 146) (j := 22) (l := 0) (u := 200) rfl
  have h187_ : a183_ 146 22 = a 146 22 := hf183_ 146 22 rfl
  have h188_ := iv_get hv185_ (k := 146) (j := 22) (l := 0) (u := 200) rfl
  have h189_ := iv_get hv185_ (k := 4) (j := 6) (l := 0) (u := 40) rfl
  have h190_ : a185_ 4 6 = a183_ 4 6 := hf185_ 4 6 rfl
  have h191_ := iv_get hv183_ (k := 4) (j := 6) (l := 0) (u := 40) rfl
  have h192_ : a183_ 4 6 = a 4 6 := hf183_ 4 6 rfl
  have h193_ := iv_get hv185_ (k := 146) (j := 2) (l := 0) (u := 40) rfl
  have h194_ : a185_ 146 2 = a183_ 146 2 := hf185_ 146 2 rfl
  have h195_ := iv_get hv183_ (k := 146) (j := 2) (l := 0) (u := 40) rfl
  have h196_ : a183_ 146 2 = a 146 2 := hf183_ 146 2 rfl
  have h197_ := iv_get hv185_ (k := 2) (j := 1) (l := 0) (u := 200) rfl
  have h198_ : a185_ 2 1 = a183_ 2 1 := hf185_ 2 1 rfl
  have h199_ := iv_get hv185_ (k := 105) (j := 5) (l := 0) (u := 10) rfl
  have h200_ : a185_ 105 5 = a183_ 105 5 := hf185_ 105 5 rfl
  have h201_ := iv_get hv183_ (k := 105) (j := 5) (l := 0) (u := 10) rfl
  have h202_ : a183_ 105 5 = a 105 5 := hf183_ 105 5 rfl
  have h203_ := iv_get hv185_ (k := 146) (j := 68) (l := 0) (u := 10) rfl
  have h204_ : a185_ 146 68 = a183_ 146 68 := hf185_ 146 68 rfl
  have h205_ := iv_get hv183_ (k := 146) (j := 68) (l := 0) (u := 10) rfl
  have h206_ : a183_ 146 68 = a 146 68 := hf183_ 146 68 rfl
  exact hnext a185_ b hv185_ (WFW_fr (WFW_fr hg0 hf183_ (fun _ => rfl) (fun _ => rfl)) hf185_ (fun _ => rfl) (fun _ => rfl)) (SV_fr (SV_fr hg1 hf183_ (fun _ => rfl) (fun _ => rfl)) hf185_ (fun _ => rfl) (fun _ => rfl)) (OC_fr (OC_fr hg2 hf183_ rfl rfl (fun _ => rfl) (fun _ => rfl) (fun _ => rfl) (fun _ => rfl) (fun _ => rfl)) hf185_ rfl rfl (fun _ => rfl) (fun _ => rfl) (fun _ => rfl) (fun _ => rfl) (fun _ => rfl)) (FO_fr (FO_fr hg3 hf183_ rfl rfl (fun _ => rfl)) hf185_ rfl rfl (fun _ => rfl)) (FW_fr (FW_fr hg4 hf183_ rfl (fun _ => rfl)) hf185_ rfl (fun _ => rfl)) (TAPE_fr (TAPE_fr hg5 hf183_ (fun _ => rfl) (fun _ => rfl)) hf185_ (fun _ => rfl) (fun _ => rfl)) (show a185_ 4 6 = a185_ 146 2 from by omega) (show a185_ 2 1 = a185_ 146 22 from by omega) (show a185_ 105 5 = a185_ 146 68 from by omega)
theorem lw_op398 (E : jxE) (d : Nat) (hd : Nat.ble 60 (d + 1) = true) (hL : E.1 ≤ 3072) (y3 : Int) (hy0 : 0 ≤ y3) (hy1 : y3 + 6 ≤ E.1) (hnext : ∀ (a b : Nat → Nat → Int) (hv : iv a) (hg0 : WFW a) (hg1 : SV a) (hg2 : OC a) (hg3 : FO a) (hg4 : FW a) (hg5 : TAPE a) (hr0 : a 4 6 = a 146 2) (hr1 : a 2 1 = a 146 22) (hr2 : a 105 5 = a 146 68), jt (jxX E d 305 1189 [some (.inr (.inr (.inl 3000))), some (.inr (.inr (.inl 0))), some (.inr (.inr (.inl 146))), some (.inl y3)] [] (jxSH, a, b)) (fun v _ _ => v = [.inl 1])) (a b : Nat → Nat → Int) (hv : iv a) (hg0 : WFW a) (hg1 : SV a) (hg2 : OC a) (hg3 : FO a) (hg4 : FW a) (hg5 : TAPE a) (hr0 : a 4 6 = a 146 2) (hr1 : a 2 1 = a 146 22) (hr2 : a 105 5 = a 146 68) : jt (jxX E d 305 398 [some (.inr (.inr (.inl 3000))), some (.inr (.inr (.inl 0))), some (.inr (.inr (.inl 146))), some (.inl y3)] [] (jxSH, a, b)) (fun v _ _ => v = [.inl 1]) := by
  refine jt_eq (bq_law_398 E d y3 a b) ?_
  have h207_ := iv_get hv (k := 4) (j := 6) (l := 0) (u := 40) rfl
  have h208_ := iv_get hv (k := 146) (j := 2) (l := 0) (u := 40) rfl
  have h209_ := iv_get hv (k := 2) (j := 1) (l := 0) (u := 200) rfl
  have h210_ := iv_get hv (k := 146) (j := 22) (l := 0) (u := 200) rfl
  have h211_ := iv_get hv (k := 105) (j := 5) (l := 0) (u := 10) rfl
  have h212_ := iv_get hv (k := 146) (j := 68) (l := 0) (u := 10) rfl
  refine jt_bif (Nat.ble_eq_true_of_le (by omega)) ?_
  have h213_ : jxw (y3 + 1) = y3 + 1 := jxw_id (by omega) (by omega)
  refine jt_grd (by omega) ?_
  refine jt_bI (sp_X11_wish E d (jd_le hd rfl) (E.2 ((jxw (y3 + 1)).toNat)) a b hv) (fun r214_ a214_ b214_ h214_ => ?_)
  obtain ⟨hv214_, hf214_, rfl, hq214_0, hq214_1, hq214_2, hq214_3, hq214_4⟩ := h214_
  have h215_ := iv_get hv214_ (k := 2) (j := 1) (l := 0) (u := 200) rfl
  refine jt_bif (Nat.ble_eq_true_of_le (by omega)) ?_
  refine jt_grd (by omega) ?_
  refine jt_bI (sp_X12_wish E d (jd_le hd rfl) (E.2 ((jxw (y3 + 1)).toNat)) a214_ b hv214_ (WFW_fr hg0 hf214_ (fun _ => rfl) (fun _ => rfl))) (fun r216_ a216_ b216_ h216_ => ?_)
  obtain ⟨hv216_, hf216_, rfl, hq216_0, hq216_1, hq216_2, hq216_3, hq216_4, hq216_5⟩ := h216_
  have h217_ := iv_get hv214_ (k := 146) (j := 2) (l := 0) (u := 40) rfl
  have h218_ : a214_ 146 2 = a 146 2 := hf214_ 146 2 rfl
  have h219_ := iv_get hv214_ (k := 146) (j := 22) (l := 0) (u := 200) rfl
  have h220_ : a214_ 146 22 = a 146 22 := hf214_ 146 22 rfl
  have h221_ := iv_get hv216_ (k := 146) (j := 22) (l := 0) (u := 200) rfl
  have hw216 : 0 ≤ (E.2 ((jxw (y3 + 1)).toNat)) → (E.2 ((jxw (y3 + 1)).toNat)) < a 4 6 → a 2 1 ≤ 100 → r214_ = r216_ := fun h1 h2 h3 => WRR_law hg5 hr1 (fun j => hf214_ 164 j rfl) (hf214_ 146 22 rfl) (hq214_3 h1 h2 h3) (hq216_4 h1 (by have e := hf214_ 146 2 rfl; omega) (by omega))
  refine jt_ite (fun c222_ => ?_) (fun c222_ => ?_)
  ·
    have h223_ := iv_get hv216_ (k := 4) (j := 6) (l := 0) (u := 40) rfl
    have h224_ : a216_ 4 6 = a214_ 4 6 := hf216_ 4 6 rfl
    have h225_ := iv_get hv214_ (k := 4) (j := 6) (l := 0) (u := 40) rfl
    have h226_ : a214_ 4 6 = a 4 6 := hf214_ 4 6 rfl
    have h227_ := iv_get hv216_ (k := 146) (j := 2) (l := 0) (u := 40) rfl
    have h228_ : a216_ 146 2 = a214_ 146 2 := hf216_ 146 2 rfl
    have h229_ := iv_get hv216_ (k := 2) (j := 1) (l := 0) (u := 200) rfl
    have h230_ : a216_ 2 1 = a214_ 2 1 := hf216_ 2 1 rfl
    have h231_ := iv_get hv216_ (k := 105) (j := 5) (l := 0) (u := 10) rfl
    have h232_ : a216_ 105 5 = a214_ 105 5 := hf216_ 105 5 rfl
    have h233_ := iv_get hv214_ (k := 105) (j := 5) (l := 0) (u := 10) rfl
    have h234_ : a214_ 105 5 = a 105 5 := hf214_ 105 5 rfl
    have h235_ := iv_get hv216_ (k := 146) (j := 68) (l := 0) (u := 10) rfl
    have h236_ : a216_ 146 68 = a214_ 146 68 := hf216_ 146 68 rfl
    have h237_ := iv_get hv214_ (k := 146) (j := 68) (l := 0) (u := 10) rfl
    have h238_ : a214_ 146 68 = a 146 68 := hf214_ 146 68 rfl
    exact hnext a216_ b hv216_ hq216_0 (SV_fr (SV_fr hg1 hf214_ (fun _ => rfl) (fun _ => rfl)) hf216_ (fun _ => rfl) (fun _ => rfl)) (OC_fr (OC_fr hg2 hf214_ rfl rfl (fun _ => rfl) (fun _ => rfl) (fun _ => rfl) (fun _ => rfl) (fun _ => rfl)) hf216_ rfl rfl (fun _ => rfl) (fun _ => rfl) (fun _ => rfl) (fun _ => rfl) (fun _ => rfl)) (FO_fr (FO_fr hg3 hf214_ rfl rfl (fun _ => rfl)) hf216_ rfl rfl (fun _ => rfl)) (FW_fr (FW_fr hg4 hf214_ rfl (fun _ => rfl)) hf216_ rfl (fun _ => rfl)) (TAPE_fr (TAPE_fr hg5 hf214_ (fun _ => rfl) (fun _ => rfl)) hf216_ (fun _ => rfl) (fun _ => rfl)) (show a216_ 4 6 = a216_ 146 2 from by omega) (show a216_ 2 1 = a216_ 146 22 from by omega) (show a216_ 105 5 = a216_ 146 68 from by omega)
  ·
    exact absurd (by omega : False) id
theorem lw_op421 (E : jxE) (d : Nat) (hd : Nat.ble 60 (d + 1) = true) (hL : E.1 ≤ 3072) (y3 : Int) (hy0 : 0 ≤ y3) (hy1 : y3 + 6 ≤ E.1) (hnext : ∀ (a b : Nat → Nat → Int) (hv : iv a) (hg0 : WFW a) (hg1 : SV a) (hg2 : OC a) (hg3 : FO a) (hg4 : FW a) (hg5 : TAPE a) (hr0 : a 4 6 = a 146 2) (hr1 : a 2 1 = a 146 22) (hr2 : a 105 5 = a 146 68), jt (jxX E d 305 1189 [some (.inr (.inr (.inl 3000))), some (.inr (.inr (.inl 0))), some (.inr (.inr (.inl 146))), some (.inl y3)] [] (jxSH, a, b)) (fun v _ _ => v = [.inl 1])) (a b : Nat → Nat → Int) (hv : iv a) (hg0 : WFW a) (hg1 : SV a) (hg2 : OC a) (hg3 : FO a) (hg4 : FW a) (hg5 : TAPE a) (hr0 : a 4 6 = a 146 2) (hr1 : a 2 1 = a 146 22) (hr2 : a 105 5 = a 146 68) : jt (jxX E d 305 421 [some (.inr (.inr (.inl 3000))), some (.inr (.inr (.inl 0))), some (.inr (.inr (.inl 146))), some (.inl y3)] [] (jxSH, a, b)) (fun v _ _ => v = [.inl 1]) := by
  refine jt_eq (bq_law_421 E d y3 a b) ?_
  have h239_ := iv_get hv (k := 4) (j := 6) (l := 0) (u := 40) rfl
  have h240_ := iv_get hv (k := 146) (j := 2) (l := 0) (u := 40) rfl
  have h241_ := iv_get hv (k := 2) (j := 1) (l := 0) (u := 200) rfl
  have h242_ := iv_get hv (k := 146) (j := 22) (l := 0) (u := 200) rfl
  have h243_ := iv_get hv (k := 105) (j := 5) (l := 0) (u := 10) rfl
  have h244_ := iv_get hv (k := 146) (j := 68) (l := 0) (u := 10) rfl
  refine jt_bif (Nat.ble_eq_true_of_le (by omega)) ?_
  have h245_ : jxw (y3 + 1) = y3 + 1 := jxw_id (by omega) (by omega)
  refine jt_grd (by omega) ?_
  refine jt_bif (Nat.ble_eq_true_of_le (by omega)) ?_
  have h246_ : jxw (y3 + 2) = y3 + 2 := jxw_id (by omega) (by omega)
  refine jt_grd (by omega) ?_
  refine jt_bI (sp_X11_meets E d (jd_le hd rfl) (E.2 ((jxw (y3 + 1)).toNat)) (E.2 ((jxw (y3 + 2)).toNat)) a b hv) (fun r247_ a247_ b247_ h247_ => ?_)
  obtain ⟨rfl, rfl, hq247_0⟩ := h247_
  refine jt_eq (bq_law_436 E d y3 a b) ?_
  refine jt_bif (Nat.ble_eq_true_of_le (by omega)) ?_
  refine jt_grd (by omega) ?_
  refine jt_bif (Nat.ble_eq_true_of_le (by omega)) ?_
  refine jt_grd (by omega) ?_
  refine jt_bI (sp_X12_meets E d (jd_le hd rfl) (E.2 ((jxw (y3 + 1)).toNat)) (E.2 ((jxw (y3 + 2)).toNat)) a b hv hg0) (fun r248_ a248_ b248_ h248_ => ?_)
  obtain ⟨hv248_, hf248_, rfl, hq248_0⟩ := h248_
  have h249_ := iv_get hv248_ (k := 4) (j := 6) (l := 0) (u := 40) rfl
  have h250_ : a248_ 4 6 = a 4 6 := hf248_ 4 6 rfl
  have h251_ := iv_get hv248_ (k := 146) (j := 2) (l := 0) (u := 40) rfl
  have h252_ : a248_ 146 2 = a 146 2 := hf248_ 146 2 rfl
  have h253_ := iv_get hv248_ (k := 2) (j := 1) (l := 0) (u := 200) rfl
  have h254_ : a248_ 2 1 = a 2 1 := hf248_ 2 1 rfl
  have h255_ := iv_get hv248_ (k := 146) (j := 22) (l := 0) (u := 200) rfl
  have h256_ : a248_ 146 22 = a 146 22 := hf248_ 146 22 rfl
  have h257_ := iv_get hv248_ (k := 105) (j := 5) (l := 0) (u := 10) rfl
  have h258_ : a248_ 105 5 = a 105 5 := hf248_ 105 5 rfl
  have h259_ := iv_get hv248_ (k := 146) (j := 68) (l := 0) (u := 10) rfl
  have h260_ : a248_ 146 68 = a 146 68 := hf248_ 146 68 rfl
  exact hnext a248_ b hv248_ (WFW_fr hg0 hf248_ (fun _ => rfl) (fun _ => rfl)) (SV_fr hg1 hf248_ (fun _ => rfl) (fun _ => rfl)) (OC_fr hg2 hf248_ rfl rfl (fun _ => rfl) (fun _ => rfl) (fun _ => rfl) (fun _ => rfl) (fun _ => rfl)) (FO_fr hg3 hf248_ rfl rfl (fun _ => rfl)) (FW_fr hg4 hf248_ rfl (fun _ => rfl)) (TAPE_fr hg5 hf248_ (fun _ => rfl) (fun _ => rfl)) (show a248_ 4 6 = a248_ 146 2 from by omega) (show a248_ 2 1 = a248_ 146 22 from by omega) (show a248_ 105 5 = a248_ 146 68 from by omega)
theorem lw_op454 (E : jxE) (d : Nat) (hd : Nat.ble 60 (d + 1) = true) (hL : E.1 ≤ 3072) (y3 : Int) (hy0 : 0 ≤ y3) (hy1 : y3 + 6 ≤ E.1) (hnext : ∀ (a b : Nat → Nat → Int) (hv : iv a) (hg0 : WFW a) (hg1 : SV a) (hg2 : OC a) (hg3 : FO a) (hg4 : FW a) (hg5 : TAPE a) (hr0 : a 4 6 = a 146 2) (hr1 : a 2 1 = a 146 22) (hr2 : a 105 5 = a 146 68), jt (jxX E d 305 1189 [some (.inr (.inr (.inl 3000))), some (.inr (.inr (.inl 0))), some (.inr (.inr (.inl 146))), some (.inl y3)] [] (jxSH, a, b)) (fun v _ _ => v = [.inl 1])) (a b : Nat → Nat → Int) (hv : iv a) (hg0 : WFW a) (hg1 : SV a) (hg2 : OC a) (hg3 : FO a) (hg4 : FW a) (hg5 : TAPE a) (hr0 : a 4 6 = a 146 2) (hr1 : a 2 1 = a 146 22) (hr2 : a 105 5 = a 146 68) : jt (jxX E d 305 454 [some (.inr (.inr (.inl 3000))), some (.inr (.inr (.inl 0))), some (.inr (.inr (.inl 146))), some (.inl y3)] [] (jxSH, a, b)) (fun v _ _ => v = [.inl 1]) := by
  refine jt_eq (bq_law_454 E d y3 a b) ?_
  have h261_ := iv_get hv (k := 4) (j := 6) (l := 0) (u := 40) rfl
  have h262_ := iv_get hv (k := 146) (j := 2) (l := 0) (u := 40) rfl
  have h263_ := iv_get hv (k := 2) (j := 1) (l := 0) (u := 200) rfl
  have h264_ := iv_get hv (k := 146) (j := 22) (l := 0) (u := 200) rfl
  have h265_ := iv_get hv (k := 105) (j := 5) (l := 0) (u := 10) rfl
  have h266_ := iv_get hv (k := 146) (j := 68) (l := 0) (u := 10) rfl
  refine jt_bI (sp_X11_rules E d (jd_le hd rfl) a b hv) (fun r267_ a267_ b267_ h267_ => ?_)
  obtain ⟨hv267_, hf267_, rfl, hq267_0, hq267_1, hq267_2, hq267_3, hq267_4, hq267_5, hq267_6⟩ := h267_
  have h268_ := iv_get hv267_ (k := 2) (j := 1) (l := 0) (u := 200) rfl
  refine jt_eq (bq_law_459 E d y3 a267_ b) ?_
  refine jt_bI (sp_X12_rules E d (jd_le hd rfl) a267_ b hv267_) (fun r269_ a269_ b269_ h269_ => ?_)
  obtain ⟨hv269_, hf269_, rfl, hq269_0, hq269_1, hq269_2, hq269_3, hq269_4, hq269_5, hq269_6⟩ := h269_
  have h270_ := iv_get hv267_ (k := 146) (j := 22) (l := 0) (u := 200) rfl
  have h271_ : a267_ 146 22 = a 146 22 := hf267_ 146 22 rfl
  have h272_ := iv_get hv269_ (k := 146) (j := 22) (l := 0) (u := 200) rfl
  have h273_ := iv_get hv269_ (k := 4) (j := 6) (l := 0) (u := 40) rfl
  have h274_ : a269_ 4 6 = a267_ 4 6 := hf269_ 4 6 rfl
  have h275_ := iv_get hv267_ (k := 4) (j := 6) (l := 0) (u := 40) rfl
  have h276_ : a267_ 4 6 = a 4 6 := hf267_ 4 6 rfl
  have h277_ := iv_get hv269_ (k := 146) (j := 2) (l := 0) (u := 40) rfl
  have h278_ : a269_ 146 2 = a267_ 146 2 := hf269_ 146 2 rfl
  have h279_ := iv_get hv267_ (k := 146) (j := 2) (l := 0) (u := 40) rfl
  have h280_ : a267_ 146 2 = a 146 2 := hf267_ 146 2 rfl
  have h281_ := iv_get hv269_ (k := 2) (j := 1) (l := 0) (u := 200) rfl
  have h282_ : a269_ 2 1 = a267_ 2 1 := hf269_ 2 1 rfl
  have h283_ := iv_get hv269_ (k := 105) (j := 5) (l := 0) (u := 10) rfl
  have h284_ : a269_ 105 5 = a267_ 105 5 := hf269_ 105 5 rfl
  have h285_ := iv_get hv267_ (k := 105) (j := 5) (l := 0) (u := 10) rfl
  have h286_ : a267_ 105 5 = a 105 5 := hf267_ 105 5 rfl
  have h287_ := iv_get hv269_ (k := 146) (j := 68) (l := 0) (u := 10) rfl
  have h288_ : a269_ 146 68 = a267_ 146 68 := hf269_ 146 68 rfl
  have h289_ := iv_get hv267_ (k := 146) (j := 68) (l := 0) (u := 10) rfl
  have h290_ : a267_ 146 68 = a 146 68 := hf267_ 146 68 rfl
  exact hnext a269_ b hv269_ (WFW_fr (WFW_fr hg0 hf267_ (fun _ => rfl) (fun _ => rfl)) hf269_ (fun _ => rfl) (fun _ => rfl)) (SV_fr (SV_fr hg1 hf267_ (fun _ => rfl) (fun _ => rfl)) hf269_ (fun _ => rfl) (fun _ => rfl)) (OC_fr (OC_fr hg2 hf267_ rfl rfl (fun _ => rfl) (fun _ => rfl) (fun _ => rfl) (fun _ => rfl) (fun _ => rfl)) hf269_ rfl rfl (fun _ => rfl) (fun _ => rfl) (fun _ => rfl) (fun _ => rfl) (fun _ => rfl)) (FO_fr (FO_fr hg3 hf267_ rfl rfl (fun _ => rfl)) hf269_ rfl rfl (fun _ => rfl)) (FW_fr (FW_fr hg4 hf267_ rfl (fun _ => rfl)) hf269_ rfl (fun _ => rfl)) (TAPE_fr (TAPE_fr hg5 hf267_ (fun _ => rfl) (fun _ => rfl)) hf269_ (fun _ => rfl) (fun _ => rfl)) (show a269_ 4 6 = a269_ 146 2 from by omega) (show a269_ 2 1 = a269_ 146 22 from by omega) (show a269_ 105 5 = a269_ 146 68 from by omega)
theorem lw_op467 (E : jxE) (d : Nat) (hd : Nat.ble 60 (d + 1) = true) (hL : E.1 ≤ 3072) (y3 : Int) (hy0 : 0 ≤ y3) (hy1 : y3 + 6 ≤ E.1) (hnext : ∀ (a b : Nat → Nat → Int) (hv : iv a) (hg0 : WFW a) (hg1 : SV a) (hg2 : OC a) (hg3 : FO a) (hg4 : FW a) (hg5 : TAPE a) (hr0 : a 4 6 = a 146 2) (hr1 : a 2 1 = a 146 22) (hr2 : a 105 5 = a 146 68), jt (jxX E d 305 1189 [some (.inr (.inr (.inl 3000))), some (.inr (.inr (.inl 0))), some (.inr (.inr (.inl 146))), some (.inl y3)] [] (jxSH, a, b)) (fun v _ _ => v = [.inl 1])) (a b : Nat → Nat → Int) (hv : iv a) (hg0 : WFW a) (hg1 : SV a) (hg2 : OC a) (hg3 : FO a) (hg4 : FW a) (hg5 : TAPE a) (hr0 : a 4 6 = a 146 2) (hr1 : a 2 1 = a 146 22) (hr2 : a 105 5 = a 146 68) : jt (jxX E d 305 467 [some (.inr (.inr (.inl 3000))), some (.inr (.inr (.inl 0))), some (.inr (.inr (.inl 146))), some (.inl y3)] [] (jxSH, a, b)) (fun v _ _ => v = [.inl 1]) := by
  refine jt_eq (bq_law_467 E d y3 a b) ?_
  have h291_ := iv_get hv (k := 4) (j := 6) (l := 0) (u := 40) rfl
  have h292_ := iv_get hv (k := 146) (j := 2) (l := 0) (u := 40) rfl
  have h293_ := iv_get hv (k := 2) (j := 1) (l := 0) (u := 200) rfl
  have h294_ := iv_get hv (k := 146) (j := 22) (l := 0) (u := 200) rfl
  have h295_ := iv_get hv (k := 105) (j := 5) (l := 0) (u := 10) rfl
  have h296_ := iv_get hv (k := 146) (j := 68) (l := 0) (u := 10) rfl
  refine jt_bif (Nat.ble_eq_true_of_le (by omega)) ?_
  have h297_ : jxw (y3 + 1) = y3 + 1 := jxw_id (by omega) (by omega)
  refine jt_grd (by omega) ?_
  refine jt_bI (sp_X11_ask E d (jd_le hd rfl) (E.2 ((jxw (y3 + 1)).toNat)) a b hv) (fun r298_ a298_ b298_ h298_ => ?_)
  obtain ⟨hv298_, hf298_, rfl, hq298_0⟩ := h298_
  refine jt_eq (bq_law_477 E d y3 a298_ b) ?_
  refine jt_bif (Nat.ble_eq_true_of_le (by omega)) ?_
  refine jt_grd (by omega) ?_
  refine jt_bI (sp_X12_ask E d (jd_le hd rfl) (E.2 ((jxw (y3 + 1)).toNat)) a298_ b hv298_ (WFW_fr hg0 hf298_ (fun _ => rfl) (fun _ => rfl)) (OC_fr hg2 hf298_ rfl rfl (fun _ => rfl) (fun _ => rfl) (fun _ => rfl) (fun _ => rfl) (fun _ => rfl))) (fun r299_ a299_ b299_ h299_ => ?_)
  obtain ⟨hv299_, hf299_, rfl, hq299_0, hq299_1⟩ := h299_
  have h300_ := iv_get hv298_ (k := 146) (j := 2) (l := 0) (u := 40) rfl
  have h301_ : a298_ 146 2 = a 146 2 := hf298_ 146 2 rfl
  have h302_ := iv_get hv299_ (k := 4) (j := 6) (l := 0) (u := 40) rfl
  have h303_ : a299_ 4 6 = a298_ 4 6 := hf299_ 4 6 rfl
  have h304_ := iv_get hv298_ (k := 4) (j := 6) (l := 0) (u := 40) rfl
  have h305_ : a298_ 4 6 = a 4 6 := hf298_ 4 6 rfl
  have h306_ := iv_get hv299_ (k := 146) (j := 2) (l := 0) (u := 40) rfl
  have h307_ : a299_ 146 2 = a298_ 146 2 := hf299_ 146 2 rfl
  have h308_ := iv_get hv299_ (k := 2) (j := 1) (l := 0) (u := 200) rfl
  have h309_ : a299_ 2 1 = a298_ 2 1 := hf299_ 2 1 rfl
  have h310_ := iv_get hv298_ (k := 2) (j := 1) (l := 0) (u := 200) rfl
  have h311_ : a298_ 2 1 = a 2 1 := hf298_ 2 1 rfl
  have h312_ := iv_get hv299_ (k := 146) (j := 22) (l := 0) (u := 200) rfl
  have h313_ : a299_ 146 22 = a298_ 146 22 := hf299_ 146 22 rfl
  have h314_ := iv_get hv298_ (k := 146) (j := 22) (l := 0) (u := 200) rfl
  have h315_ : a298_ 146 22 = a 146 22 := hf298_ 146 22 rfl
  have h316_ := iv_get hv299_ (k := 105) (j := 5) (l := 0) (u := 10) rfl
  have h317_ : a299_ 105 5 = a298_ 105 5 := hf299_ 105 5 rfl
  have h318_ := iv_get hv298_ (k := 105) (j := 5) (l := 0) (u := 10) rfl
  have h319_ : a298_ 105 5 = a 105 5 := hf298_ 105 5 rfl
  have h320_ := iv_get hv299_ (k := 146) (j := 68) (l := 0) (u := 10) rfl
  have h321_ : a299_ 146 68 = a298_ 146 68 := hf299_ 146 68 rfl
  have h322_ := iv_get hv298_ (k := 146) (j := 68) (l := 0) (u := 10) rfl
  have h323_ : a298_ 146 68 = a 146 68 := hf298_ 146 68 rfl
  exact hnext a299_ b hv299_ (WFW_fr (WFW_fr hg0 hf298_ (fun _ => rfl) (fun _ => rfl)) hf299_ (fun _ => rfl) (fun _ => rfl)) (SV_fr (SV_fr hg1 hf298_ (fun _ => rfl) (fun _ => rfl)) hf299_ (fun _ => rfl) (fun _ => rfl)) hq299_0 (FO_fr (FO_fr hg3 hf298_ rfl rfl (fun _ => rfl)) hf299_ rfl rfl (fun _ => rfl)) (FW_fr (FW_fr hg4 hf298_ rfl (fun _ => rfl)) hf299_ rfl (fun _ => rfl)) (TAPE_fr (TAPE_fr hg5 hf298_ (fun _ => rfl) (fun _ => rfl)) hf299_ (fun _ => rfl) (fun _ => rfl)) (show a299_ 4 6 = a299_ 146 2 from by omega) (show a299_ 2 1 = a299_ 146 22 from by omega) (show a299_ 105 5 = a299_ 146 68 from by omega)
theorem lw_op490 (E : jxE) (d : Nat) (hd : Nat.ble 60 (d + 1) = true) (hL : E.1 ≤ 3072) (y3 : Int) (hy0 : 0 ≤ y3) (hy1 : y3 + 6 ≤ E.1) (hnext : ∀ (a b : Nat → Nat → Int) (hv : iv a) (hg0 : WFW a) (hg1 : SV a) (hg2 : OC a) (hg3 : FO a) (hg4 : FW a) (hg5 : TAPE a) (hr0 : a 4 6 = a 146 2) (hr1 : a 2 1 = a 146 22) (hr2 : a 105 5 = a 146 68), jt (jxX E d 305 1189 [some (.inr (.inr (.inl 3000))), some (.inr (.inr (.inl 0))), some (.inr (.inr (.inl 146))), some (.inl y3)] [] (jxSH, a, b)) (fun v _ _ => v = [.inl 1])) (a b : Nat → Nat → Int) (hv : iv a) (hg0 : WFW a) (hg1 : SV a) (hg2 : OC a) (hg3 : FO a) (hg4 : FW a) (hg5 : TAPE a) (hr0 : a 4 6 = a 146 2) (hr1 : a 2 1 = a 146 22) (hr2 : a 105 5 = a 146 68) : jt (jxX E d 305 490 [some (.inr (.inr (.inl 3000))), some (.inr (.inr (.inl 0))), some (.inr (.inr (.inl 146))), some (.inl y3)] [] (jxSH, a, b)) (fun v _ _ => v = [.inl 1]) := by
  refine jt_eq (bq_law_490 E d y3 a b) ?_
  have h324_ := iv_get hv (k := 4) (j := 6) (l := 0) (u := 40) rfl
  have h325_ := iv_get hv (k := 146) (j := 2) (l := 0) (u := 40) rfl
  have h326_ := iv_get hv (k := 2) (j := 1) (l := 0) (u := 200) rfl
  have h327_ := iv_get hv (k := 146) (j := 22) (l := 0) (u := 200) rfl
  have h328_ := iv_get hv (k := 105) (j := 5) (l := 0) (u := 10) rfl
  have h329_ := iv_get hv (k := 146) (j := 68) (l := 0) (u := 10) rfl
  refine jt_bif (Nat.ble_eq_true_of_le (by omega)) ?_
  have h330_ : jxw (y3 + 1) = y3 + 1 := jxw_id (by omega) (by omega)
  refine jt_grd (by omega) ?_
  refine jt_bif (Nat.ble_eq_true_of_le (by omega)) ?_
  have h331_ : jxw (y3 + 2) = y3 + 2 := jxw_id (by omega) (by omega)
  refine jt_grd (by omega) ?_
  refine jt_bI (sp_X11_may E d (jd_le hd rfl) (E.2 ((jxw (y3 + 1)).toNat)) (E.2 ((jxw (y3 + 2)).toNat)) a b hv) (fun r332_ a332_ b332_ h332_ => ?_)
  obtain ⟨hv332_, hf332_, rfl, hq332_0⟩ := h332_
  refine jt_eq (bq_law_505 E d y3 a332_ b) ?_
  refine jt_bif (Nat.ble_eq_true_of_le (by omega)) ?_
  refine jt_grd (by omega) ?_
  refine jt_bif (Nat.ble_eq_true_of_le (by omega)) ?_
  refine jt_grd (by omega) ?_
  refine jt_bI (sp_X12_may E d (jd_le hd rfl) (E.2 ((jxw (y3 + 1)).toNat)) (E.2 ((jxw (y3 + 2)).toNat)) a332_ b hv332_ (WFW_fr hg0 hf332_ (fun _ => rfl) (fun _ => rfl))) (fun r333_ a333_ b333_ h333_ => ?_)
  obtain ⟨hv333_, hf333_, rfl, hq333_0⟩ := h333_
  have h334_ := iv_get hv332_ (k := 146) (j := 2) (l := 0) (u := 40) rfl
  have h335_ : a332_ 146 2 = a 146 2 := hf332_ 146 2 rfl
  have h336_ := iv_get hv333_ (k := 4) (j := 6) (l := 0) (u := 40) rfl
  have h337_ : a333_ 4 6 = a332_ 4 6 := hf333_ 4 6 rfl
  have h338_ := iv_get hv332_ (k := 4) (j := 6) (l := 0) (u := 40) rfl
  have h339_ : a332_ 4 6 = a 4 6 := hf332_ 4 6 rfl
  have h340_ := iv_get hv333_ (k := 146) (j := 2) (l := 0) (u := 40) rfl
  have h341_ : a333_ 146 2 = a332_ 146 2 := hf333_ 146 2 rfl
  have h342_ := iv_get hv333_ (k := 2) (j := 1) (l := 0) (u := 200) rfl
  have h343_ : a333_ 2 1 = a332_ 2 1 := hf333_ 2 1 rfl
  have h344_ := iv_get hv332_ (k := 2) (j := 1) (l := 0) (u := 200) rfl
  have h345_ : a332_ 2 1 = a 2 1 := hf332_ 2 1 rfl
  have h346_ := iv_get hv333_ (k := 146) (j := 22) (l := 0) (u := 200) rfl
  have h347_ : a333_ 146 22 = a332_ 146 22 := hf333_ 146 22 rfl
  have h348_ := iv_get hv332_ (k := 146) (j := 22) (l := 0) (u := 200) rfl
  have h349_ : a332_ 146 22 = a 146 22 := hf332_ 146 22 rfl
  have h350_ := iv_get hv333_ (k := 105) (j := 5) (l := 0) (u := 10) rfl
  have h351_ : a333_ 105 5 = a332_ 105 5 := hf333_ 105 5 rfl
  have h352_ := iv_get hv332_ (k := 105) (j := 5) (l := 0) (u := 10) rfl
  have h353_ : a332_ 105 5 = a 105 5 := hf332_ 105 5 rfl
  have h354_ := iv_get hv333_ (k := 146) (j := 68) (l := 0) (u := 10) rfl
  have h355_ : a333_ 146 68 = a332_ 146 68 := hf333_ 146 68 rfl
  have h356_ := iv_get hv332_ (k := 146) (j := 68) (l := 0) (u := 10) rfl
  have h357_ : a332_ 146 68 = a 146 68 := hf332_ 146 68 rfl
  exact hnext a333_ b hv333_ (WFW_fr (WFW_fr hg0 hf332_ (fun _ => rfl) (fun _ => rfl)) hf333_ (fun _ => rfl) (fun _ => rfl)) (SV_fr (SV_fr hg1 hf332_ (fun _ => rfl) (fun _ => rfl)) hf333_ (fun _ => rfl) (fun _ => rfl)) (OC_fr (OC_fr hg2 hf332_ rfl rfl (fun _ => rfl) (fun _ => rfl) (fun _ => rfl) (fun _ => rfl) (fun _ => rfl)) hf333_ rfl rfl (fun _ => rfl) (fun _ => rfl) (fun _ => rfl) (fun _ => rfl) (fun _ => rfl)) (FO_fr (FO_fr hg3 hf332_ rfl rfl (fun _ => rfl)) hf333_ rfl rfl (fun _ => rfl)) (FW_fr (FW_fr hg4 hf332_ rfl (fun _ => rfl)) hf333_ rfl (fun _ => rfl)) (TAPE_fr (TAPE_fr hg5 hf332_ (fun _ => rfl) (fun _ => rfl)) hf333_ (fun _ => rfl) (fun _ => rfl)) (show a333_ 4 6 = a333_ 146 2 from by omega) (show a333_ 2 1 = a333_ 146 22 from by omega) (show a333_ 105 5 = a333_ 146 68 from by omega)
theorem lw_op523 (E : jxE) (d : Nat) (hd : Nat.ble 60 (d + 1) = true) (hL : E.1 ≤ 3072) (y3 : Int) (hy0 : 0 ≤ y3) (hy1 : y3 + 6 ≤ E.1) (hnext : ∀ (a b : Nat → Nat → Int) (hv : iv a) (hg0 : WFW a) (hg1 : SV a) (hg2 : OC a) (hg3 : FO a) (hg4 : FW a) (hg5 : TAPE a) (hr0 : a 4 6 = a 146 2) (hr1 : a 2 1 = a 146 22) (hr2 : a 105 5 = a 146 68), jt (jxX E d 305 1189 [some (.inr (.inr (.inl 3000))), some (.inr (.inr (.inl 0))), some (.inr (.inr (.inl 146))), some (.inl y3)] [] (jxSH, a, b)) (fun v _ _ => v = [.inl 1])) (a b : Nat → Nat → Int) (hv : iv a) (hg0 : WFW a) (hg1 : SV a) (hg2 : OC a) (hg3 : FO a) (hg4 : FW a) (hg5 : TAPE a) (hr0 : a 4 6 = a 146 2) (hr1 : a 2 1 = a 146 22) (hr2 : a 105 5 = a 146 68) : jt (jxX E d 305 523 [some (.inr (.inr (.inl 3000))), some (.inr (.inr (.inl 0))), some (.inr (.inr (.inl 146))), some (.inl y3)] [] (jxSH, a, b)) (fun v _ _ => v = [.inl 1]) := by
  refine jt_eq (bq_law_523 E d y3 a b) ?_
  have h358_ := iv_get hv (k := 4) (j := 6) (l := 0) (u := 40) rfl
  have h359_ := iv_get hv (k := 146) (j := 2) (l := 0) (u := 40) rfl
  have h360_ := iv_get hv (k := 2) (j := 1) (l := 0) (u := 200) rfl
  have h361_ := iv_get hv (k := 146) (j := 22) (l := 0) (u := 200) rfl
  have h362_ := iv_get hv (k := 105) (j := 5) (l := 0) (u := 10) rfl
  have h363_ := iv_get hv (k := 146) (j := 68) (l := 0) (u := 10) rfl
  refine jt_bif (Nat.ble_eq_true_of_le (by omega)) ?_
  have h364_ : jxw (y3 + 1) = y3 + 1 := jxw_id (by omega) (by omega)
  refine jt_grd (by omega) ?_
  refine jt_bI (sp_X11_list E d (jd_le hd rfl) (E.2 ((jxw (y3 + 1)).toNat)) a b hv) (fun r365_ a365_ b365_ h365_ => ?_)
  obtain ⟨hv365_, hf365_, rfl, hq365_0⟩ := h365_
  refine jt_eq (bq_law_533 E d y3 a365_ b) ?_
  refine jt_bif (Nat.ble_eq_true_of_le (by omega)) ?_
  refine jt_grd (by omega) ?_
  refine jt_bI (sp_X12_list E d (jd_le hd rfl) (E.2 ((jxw (y3 + 1)).toNat)) a365_ b hv365_) (fun r366_ a366_ b366_ h366_ => ?_)
  obtain ⟨hv366_, hf366_, rfl, hq366_0⟩ := h366_
  have h367_ := iv_get hv365_ (k := 146) (j := 2) (l := 0) (u := 40) rfl
  have h368_ : a365_ 146 2 = a 146 2 := hf365_ 146 2 rfl
  have h369_ := iv_get hv366_ (k := 4) (j := 6) (l := 0) (u := 40) rfl
  have h370_ : a366_ 4 6 = a365_ 4 6 := hf366_ 4 6 rfl
  have h371_ := iv_get hv365_ (k := 4) (j := 6) (l := 0) (u := 40) rfl
  have h372_ : a365_ 4 6 = a 4 6 := hf365_ 4 6 rfl
  have h373_ := iv_get hv366_ (k := 146) (j := 2) (l := 0) (u := 40) rfl
  have h374_ : a366_ 146 2 = a365_ 146 2 := hf366_ 146 2 rfl
  have h375_ := iv_get hv366_ (k := 2) (j := 1) (l := 0) (u := 200) rfl
  have h376_ : a366_ 2 1 = a365_ 2 1 := hf366_ 2 1 rfl
  have h377_ := iv_get hv365_ (k := 2) (j := 1) (l := 0) (u := 200) rfl
  have h378_ : a365_ 2 1 = a 2 1 := hf365_ 2 1 rfl
  have h379_ := iv_get hv366_ (k := 146) (j := 22) (l := 0) (u := 200) rfl
  have h380_ : a366_ 146 22 = a365_ 146 22 := hf366_ 146 22 rfl
  have h381_ := iv_get hv365_ (k := 146) (j := 22) (l := 0) (u := 200) rfl
  have h382_ : a365_ 146 22 = a 146 22 := hf365_ 146 22 rfl
  have h383_ := iv_get hv366_ (k := 105) (j := 5) (l := 0) (u := 10) rfl
  have h384_ : a366_ 105 5 = a365_ 105 5 := hf366_ 105 5 rfl
  have h385_ := iv_get hv365_ (k := 105) (j := 5) (l := 0) (u := 10) rfl
  have h386_ : a365_ 105 5 = a 105 5 := hf365_ 105 5 rfl
  have h387_ := iv_get hv366_ (k := 146) (j := 68) (l := 0) (u := 10) rfl
  have h388_ : a366_ 146 68 = a365_ 146 68 := hf366_ 146 68 rfl
  have h389_ := iv_get hv365_ (k := 146) (j := 68) (l := 0) (u := 10) rfl
  have h390_ : a365_ 146 68 = a 146 68 := hf365_ 146 68 rfl
  exact hnext a366_ b hv366_ (WFW_fr (WFW_fr hg0 hf365_ (fun _ => rfl) (fun _ => rfl)) hf366_ (fun _ => rfl) (fun _ => rfl)) (SV_fr (SV_fr hg1 hf365_ (fun _ => rfl) (fun _ => rfl)) hf366_ (fun _ => rfl) (fun _ => rfl)) (OC_fr (OC_fr hg2 hf365_ rfl rfl (fun _ => rfl) (fun _ => rfl) (fun _ => rfl) (fun _ => rfl) (fun _ => rfl)) hf366_ rfl rfl (fun _ => rfl) (fun _ => rfl) (fun _ => rfl) (fun _ => rfl) (fun _ => rfl)) (FO_fr (FO_fr hg3 hf365_ rfl rfl (fun _ => rfl)) hf366_ rfl rfl (fun _ => rfl)) (FW_fr (FW_fr hg4 hf365_ rfl (fun _ => rfl)) hf366_ rfl (fun _ => rfl)) (TAPE_fr (TAPE_fr hg5 hf365_ (fun _ => rfl) (fun _ => rfl)) hf366_ (fun _ => rfl) (fun _ => rfl)) (show a366_ 4 6 = a366_ 146 2 from by omega) (show a366_ 2 1 = a366_ 146 22 from by omega) (show a366_ 105 5 = a366_ 146 68 from by omega)
theorem lw_op546 (E : jxE) (d : Nat) (hd : Nat.ble 60 (d + 1) = true) (hL : E.1 ≤ 3072) (y3 : Int) (hy0 : 0 ≤ y3) (hy1 : y3 + 6 ≤ E.1) (hnext : ∀ (a b : Nat → Nat → Int) (hv : iv a) (hg0 : WFW a) (hg1 : SV a) (hg2 : OC a) (hg3 : FO a) (hg4 : FW a) (hg5 : TAPE a) (hr0 : a 4 6 = a 146 2) (hr1 : a 2 1 = a 146 22) (hr2 : a 105 5 = a 146 68), jt (jxX E d 305 1189 [some (.inr (.inr (.inl 3000))), some (.inr (.inr (.inl 0))), some (.inr (.inr (.inl 146))), some (.inl y3)] [] (jxSH, a, b)) (fun v _ _ => v = [.inl 1])) (a b : Nat → Nat → Int) (hv : iv a) (hg0 : WFW a) (hg1 : SV a) (hg2 : OC a) (hg3 : FO a) (hg4 : FW a) (hg5 : TAPE a) (hr0 : a 4 6 = a 146 2) (hr1 : a 2 1 = a 146 22) (hr2 : a 105 5 = a 146 68) : jt (jxX E d 305 546 [some (.inr (.inr (.inl 3000))), some (.inr (.inr (.inl 0))), some (.inr (.inr (.inl 146))), some (.inl y3)] [] (jxSH, a, b)) (fun v _ _ => v = [.inl 1]) := by
  refine jt_eq (bq_law_546 E d y3 a b) ?_
  have h391_ := iv_get hv (k := 4) (j := 6) (l := 0) (u := 40) rfl
  have h392_ := iv_get hv (k := 146) (j := 2) (l := 0) (u := 40) rfl
  have h393_ := iv_get hv (k := 2) (j := 1) (l := 0) (u := 200) rfl
  have h394_ := iv_get hv (k := 146) (j := 22) (l := 0) (u := 200) rfl
  have h395_ := iv_get hv (k := 105) (j := 5) (l := 0) (u := 10) rfl
  have h396_ := iv_get hv (k := 146) (j := 68) (l := 0) (u := 10) rfl
  refine jt_bI (sp_X11_give E d (jd_le hd rfl) a b hv) (fun r397_ a397_ b397_ h397_ => ?_)
  obtain ⟨hv397_, hf397_, hq397_0⟩ := h397_
  have h398_ := iv_get hv (k := 0) (j := 9) (l := 0) (u := 8) rfl
  refine jt_eq (bq_law_551 E d y3 a397_ b397_) ?_
  refine jt_bI (sp_X12_give E d (jd_le hd rfl) a397_ b397_ hv397_ (WFW_fr hg0 hf397_ (fun _ => rfl) (fun _ => rfl)) (OC_fr hg2 hf397_ rfl rfl (fun _ => rfl) (fun _ => rfl) (fun _ => rfl) (fun _ => rfl) (fun _ => rfl))) (fun r399_ a399_ b399_ h399_ => ?_)
  obtain ⟨hv399_, hf399_, hq399_0, hq399_1⟩ := h399_
  have h400_ := iv_get hv397_ (k := 146) (j := 42) (l := 0) (u := 8) rfl
  have h401_ : a397_ 146 42 = a 146 42 := hf397_ 146 42 rfl
  have h402_ := iv_get hv (k := 146) (j := 42) (l := 0) (u := 8) rfl
  have h403_ := iv_get hv399_ (k := 4) (j := 6) (l := 0) (u := 40) rfl
  have h404_ : a399_ 4 6 = a397_ 4 6 := hf399_ 4 6 rfl
  have h405_ := iv_get hv397_ (k := 4) (j := 6) (l := 0) (u := 40) rfl
  have h406_ : a397_ 4 6 = a 4 6 := hf397_ 4 6 rfl
  have h407_ := iv_get hv399_ (k := 146) (j := 2) (l := 0) (u := 40) rfl
  have h408_ : a399_ 146 2 = a397_ 146 2 := hf399_ 146 2 rfl
  have h409_ := iv_get hv397_ (k := 146) (j := 2) (l := 0) (u := 40) rfl
  have h410_ : a397_ 146 2 = a 146 2 := hf397_ 146 2 rfl
  have h411_ := iv_get hv399_ (k := 2) (j := 1) (l := 0) (u := 200) rfl
  have h412_ : a399_ 2 1 = a397_ 2 1 := hf399_ 2 1 rfl
  have h413_ := iv_get hv397_ (k := 2) (j := 1) (l := 0) (u := 200) rfl
  have h414_ : a397_ 2 1 = a 2 1 := hf397_ 2 1 rfl
  have h415_ := iv_get hv399_ (k := 146) (j := 22) (l := 0) (u := 200) rfl
  have h416_ : a399_ 146 22 = a397_ 146 22 := hf399_ 146 22 rfl
  have h417_ := iv_get hv397_ (k := 146) (j := 22) (l := 0) (u := 200) rfl
  have h418_ : a397_ 146 22 = a 146 22 := hf397_ 146 22 rfl
  have h419_ := iv_get hv399_ (k := 105) (j := 5) (l := 0) (u := 10) rfl
  have h420_ : a399_ 105 5 = a397_ 105 5 := hf399_ 105 5 rfl
  have h421_ := iv_get hv397_ (k := 105) (j := 5) (l := 0) (u := 10) rfl
  have h422_ : a397_ 105 5 = a 105 5 := hf397_ 105 5 rfl
  have h423_ := iv_get hv399_ (k := 146) (j := 68) (l := 0) (u := 10) rfl
  have h424_ : a399_ 146 68 = a397_ 146 68 := hf399_ 146 68 rfl
  have h425_ := iv_get hv397_ (k := 146) (j := 68) (l := 0) (u := 10) rfl
  have h426_ : a397_ 146 68 = a 146 68 := hf397_ 146 68 rfl
  exact hnext a399_ b399_ hv399_ (WFW_fr (WFW_fr hg0 hf397_ (fun _ => rfl) (fun _ => rfl)) hf399_ (fun _ => rfl) (fun _ => rfl)) (SV_fr (SV_fr hg1 hf397_ (fun _ => rfl) (fun _ => rfl)) hf399_ (fun _ => rfl) (fun _ => rfl)) hq399_0 (FO_fr (FO_fr hg3 hf397_ rfl rfl (fun _ => rfl)) hf399_ rfl rfl (fun _ => rfl)) (FW_fr (FW_fr hg4 hf397_ rfl (fun _ => rfl)) hf399_ rfl (fun _ => rfl)) (TAPE_fr (TAPE_fr hg5 hf397_ (fun _ => rfl) (fun _ => rfl)) hf399_ (fun _ => rfl) (fun _ => rfl)) (show a399_ 4 6 = a399_ 146 2 from by omega) (show a399_ 2 1 = a399_ 146 22 from by omega) (show a399_ 105 5 = a399_ 146 68 from by omega)
theorem lw_op559 (E : jxE) (d : Nat) (hd : Nat.ble 60 (d + 1) = true) (hL : E.1 ≤ 3072) (y3 : Int) (hy0 : 0 ≤ y3) (hy1 : y3 + 6 ≤ E.1) (hnext : ∀ (a b : Nat → Nat → Int) (hv : iv a) (hg0 : WFW a) (hg1 : SV a) (hg2 : OC a) (hg3 : FO a) (hg4 : FW a) (hg5 : TAPE a) (hr0 : a 4 6 = a 146 2) (hr1 : a 2 1 = a 146 22) (hr2 : a 105 5 = a 146 68), jt (jxX E d 305 1189 [some (.inr (.inr (.inl 3000))), some (.inr (.inr (.inl 0))), some (.inr (.inr (.inl 146))), some (.inl y3)] [] (jxSH, a, b)) (fun v _ _ => v = [.inl 1])) (a b : Nat → Nat → Int) (hv : iv a) (hg0 : WFW a) (hg1 : SV a) (hg2 : OC a) (hg3 : FO a) (hg4 : FW a) (hg5 : TAPE a) (hr0 : a 4 6 = a 146 2) (hr1 : a 2 1 = a 146 22) (hr2 : a 105 5 = a 146 68) : jt (jxX E d 305 559 [some (.inr (.inr (.inl 3000))), some (.inr (.inr (.inl 0))), some (.inr (.inr (.inl 146))), some (.inl y3)] [] (jxSH, a, b)) (fun v _ _ => v = [.inl 1]) := by
  refine jt_eq (bq_law_559 E d y3 a b) ?_
  have h427_ := iv_get hv (k := 4) (j := 6) (l := 0) (u := 40) rfl
  have h428_ := iv_get hv (k := 146) (j := 2) (l := 0) (u := 40) rfl
  have h429_ := iv_get hv (k := 2) (j := 1) (l := 0) (u := 200) rfl
  have h430_ := iv_get hv (k := 146) (j := 22) (l := 0) (u := 200) rfl
  have h431_ := iv_get hv (k := 105) (j := 5) (l := 0) (u := 10) rfl
  have h432_ := iv_get hv (k := 146) (j := 68) (l := 0) (u := 10) rfl
  refine jt_bif (Nat.ble_eq_true_of_le (by omega)) ?_
  have h433_ : jxw (y3 + 1) = y3 + 1 := jxw_id (by omega) (by omega)
  refine jt_grd (by omega) ?_
  refine jt_bif (Nat.ble_eq_true_of_le (by omega)) ?_
  have h434_ : jxw (y3 + 2) = y3 + 2 := jxw_id (by omega) (by omega)
  refine jt_grd (by omega) ?_
  refine jt_bI (sp_X11_arrive E d (jd_le hd rfl) (E.2 ((jxw (y3 + 1)).toNat)) (E.2 ((jxw (y3 + 2)).toNat)) a b hv) (fun r435_ a435_ b435_ h435_ => ?_)
  obtain ⟨hv435_, hf435_, rfl, hq435_0, hq435_1⟩ := h435_
  have h436_ := iv_get hv (k := 58) (j := 8) (l := 0) (u := 300) rfl
  refine jt_eq (bq_law_574 E d y3 a435_ b) ?_
  refine jt_bif (Nat.ble_eq_true_of_le (by omega)) ?_
  refine jt_grd (by omega) ?_
  refine jt_bif (Nat.ble_eq_true_of_le (by omega)) ?_
  refine jt_grd (by omega) ?_
  refine jt_bI (sp_X12_arrive E d (jd_le hd rfl) (E.2 ((jxw (y3 + 1)).toNat)) (E.2 ((jxw (y3 + 2)).toNat)) a435_ b hv435_) (fun r437_ a437_ b437_ h437_ => ?_)
  obtain ⟨hv437_, hf437_, rfl, hq437_0, hq437_1⟩ := h437_
  have h438_ := iv_get hv435_ (k := 146) (j := 9) (l := 0) (u := 300) rfl
  have h439_ : a435_ 146 9 = a 146 9 := hf435_ 146 9 rfl
  have h440_ := iv_get hv (k := 146) (j := 9) (l := 0) (u := 300) rfl
  have h441_ := iv_get hv437_ (k := 4) (j := 6) (l := 0) (u := 40) rfl
  have h442_ : a437_ 4 6 = a435_ 4 6 := hf437_ 4 6 rfl
  have h443_ := iv_get hv435_ (k := 4) (j := 6) (l := 0) (u := 40) rfl
  have h444_ : a435_ 4 6 = a 4 6 := hf435_ 4 6 rfl
  have h445_ := iv_get hv437_ (k := 146) (j := 2) (l := 0) (u := 40) rfl
  have h446_ : a437_ 146 2 = a435_ 146 2 := hf437_ 146 2 rfl
  have h447_ := iv_get hv435_ (k := 146) (j := 2) (l := 0) (u := 40) rfl
  have h448_ : a435_ 146 2 = a 146 2 := hf435_ 146 2 rfl
  have h449_ := iv_get hv437_ (k := 2) (j := 1) (l := 0) (u := 200) rfl
  have h450_ : a437_ 2 1 = a435_ 2 1 := hf437_ 2 1 rfl
  have h451_ := iv_get hv435_ (k := 2) (j := 1) (l := 0) (u := 200) rfl
  have h452_ : a435_ 2 1 = a 2 1 := hf435_ 2 1 rfl
  have h453_ := iv_get hv437_ (k := 146) (j := 22) (l := 0) (u := 200) rfl
  have h454_ : a437_ 146 22 = a435_ 146 22 := hf437_ 146 22 rfl
  have h455_ := iv_get hv435_ (k := 146) (j := 22) (l := 0) (u := 200) rfl
  have h456_ : a435_ 146 22 = a 146 22 := hf435_ 146 22 rfl
  have h457_ := iv_get hv437_ (k := 105) (j := 5) (l := 0) (u := 10) rfl
  have h458_ : a437_ 105 5 = a435_ 105 5 := hf437_ 105 5 rfl
  have h459_ := iv_get hv435_ (k := 105) (j := 5) (l := 0) (u := 10) rfl
  have h460_ : a435_ 105 5 = a 105 5 := hf435_ 105 5 rfl
  have h461_ := iv_get hv437_ (k := 146) (j := 68) (l := 0) (u := 10) rfl
  have h462_ : a437_ 146 68 = a435_ 146 68 := hf437_ 146 68 rfl
  have h463_ := iv_get hv435_ (k := 146) (j := 68) (l := 0) (u := 10) rfl
  have h464_ : a435_ 146 68 = a 146 68 := hf435_ 146 68 rfl
  exact hnext a437_ b hv437_ (WFW_fr (WFW_fr hg0 hf435_ (fun _ => rfl) (fun _ => rfl)) hf437_ (fun _ => rfl) (fun _ => rfl)) (SV_fr (SV_fr hg1 hf435_ (fun _ => rfl) (fun _ => rfl)) hf437_ (fun _ => rfl) (fun _ => rfl)) (OC_fr (OC_fr hg2 hf435_ rfl rfl (fun _ => rfl) (fun _ => rfl) (fun _ => rfl) (fun _ => rfl) (fun _ => rfl)) hf437_ rfl rfl (fun _ => rfl) (fun _ => rfl) (fun _ => rfl) (fun _ => rfl) (fun _ => rfl)) (FO_fr (FO_fr hg3 hf435_ rfl rfl (fun _ => rfl)) hf437_ rfl rfl (fun _ => rfl)) (FW_fr (FW_fr hg4 hf435_ rfl (fun _ => rfl)) hf437_ rfl (fun _ => rfl)) (TAPE_fr (TAPE_fr hg5 hf435_ (fun _ => rfl) (fun _ => rfl)) hf437_ (fun _ => rfl) (fun _ => rfl)) (show a437_ 4 6 = a437_ 146 2 from by omega) (show a437_ 2 1 = a437_ 146 22 from by omega) (show a437_ 105 5 = a437_ 146 68 from by omega)
theorem lw_op592 (E : jxE) (d : Nat) (hd : Nat.ble 60 (d + 1) = true) (hL : E.1 ≤ 3072) (y3 : Int) (hy0 : 0 ≤ y3) (hy1 : y3 + 6 ≤ E.1) (hnext : ∀ (a b : Nat → Nat → Int) (hv : iv a) (hg0 : WFW a) (hg1 : SV a) (hg2 : OC a) (hg3 : FO a) (hg4 : FW a) (hg5 : TAPE a) (hr0 : a 4 6 = a 146 2) (hr1 : a 2 1 = a 146 22) (hr2 : a 105 5 = a 146 68), jt (jxX E d 305 1189 [some (.inr (.inr (.inl 3000))), some (.inr (.inr (.inl 0))), some (.inr (.inr (.inl 146))), some (.inl y3)] [] (jxSH, a, b)) (fun v _ _ => v = [.inl 1])) (a b : Nat → Nat → Int) (hv : iv a) (hg0 : WFW a) (hg1 : SV a) (hg2 : OC a) (hg3 : FO a) (hg4 : FW a) (hg5 : TAPE a) (hr0 : a 4 6 = a 146 2) (hr1 : a 2 1 = a 146 22) (hr2 : a 105 5 = a 146 68) : jt (jxX E d 305 592 [some (.inr (.inr (.inl 3000))), some (.inr (.inr (.inl 0))), some (.inr (.inr (.inl 146))), some (.inl y3)] [] (jxSH, a, b)) (fun v _ _ => v = [.inl 1]) := by
  refine jt_eq (bq_law_592 E d y3 a b) ?_
  have h465_ := iv_get hv (k := 4) (j := 6) (l := 0) (u := 40) rfl
  have h466_ := iv_get hv (k := 146) (j := 2) (l := 0) (u := 40) rfl
  have h467_ := iv_get hv (k := 2) (j := 1) (l := 0) (u := 200) rfl
  have h468_ := iv_get hv (k := 146) (j := 22) (l := 0) (u := 200) rfl
  have h469_ := iv_get hv (k := 105) (j := 5) (l := 0) (u := 10) rfl
  have h470_ := iv_get hv (k := 146) (j := 68) (l := 0) (u := 10) rfl
  refine jt_bif (Nat.ble_eq_true_of_le (by omega)) ?_
  have h471_ : jxw (y3 + 1) = y3 + 1 := jxw_id (by omega) (by omega)
  refine jt_grd (by omega) ?_
  refine jt_bI (sp_X11_back E d (jd_le hd rfl) (E.2 ((jxw (y3 + 1)).toNat)) a b hv) (fun r472_ a472_ b472_ h472_ => ?_)
  obtain ⟨hv472_, hf472_, rfl, hq472_0, hq472_1⟩ := h472_
  have h473_ := iv_get hv (k := 58) (j := 8) (l := 0) (u := 300) rfl
  refine jt_eq (bq_law_602 E d y3 a472_ b) ?_
  refine jt_bif (Nat.ble_eq_true_of_le (by omega)) ?_
  refine jt_grd (by omega) ?_
  refine jt_bI (sp_X12_back E d (jd_le hd rfl) (E.2 ((jxw (y3 + 1)).toNat)) a472_ b hv472_) (fun r474_ a474_ b474_ h474_ => ?_)
  obtain ⟨hv474_, hf474_, rfl, hq474_0, hq474_1⟩ := h474_
  have h475_ := iv_get hv472_ (k := 146) (j := 9) (l := 0) (u := 300) rfl
  have h476_ : a472_ 146 9 = a 146 9 := hf472_ 146 9 rfl
  have h477_ := iv_get hv (k := 146) (j := 9) (l := 0) (u := 300) rfl
  have h478_ := iv_get hv474_ (k := 4) (j := 6) (l := 0) (u := 40) rfl
  have h479_ : a474_ 4 6 = a472_ 4 6 := hf474_ 4 6 rfl
  have h480_ := iv_get hv472_ (k := 4) (j := 6) (l := 0) (u := 40) rfl
  have h481_ : a472_ 4 6 = a 4 6 := hf472_ 4 6 rfl
  have h482_ := iv_get hv474_ (k := 146) (j := 2) (l := 0) (u := 40) rfl
  have h483_ : a474_ 146 2 = a472_ 146 2 := hf474_ 146 2 rfl
  have h484_ := iv_get hv472_ (k := 146) (j := 2) (l := 0) (u := 40) rfl
  have h485_ : a472_ 146 2 = a 146 2 := hf472_ 146 2 rfl
  have h486_ := iv_get hv474_ (k := 2) (j := 1) (l := 0) (u := 200) rfl
  have h487_ : a474_ 2 1 = a472_ 2 1 := hf474_ 2 1 rfl
  have h488_ := iv_get hv472_ (k := 2) (j := 1) (l := 0) (u := 200) rfl
  have h489_ : a472_ 2 1 = a 2 1 := hf472_ 2 1 rfl
  have h490_ := iv_get hv474_ (k := 146) (j := 22) (l := 0) (u := 200) rfl
  have h491_ : a474_ 146 22 = a472_ 146 22 := hf474_ 146 22 rfl
  have h492_ := iv_get hv472_ (k := 146) (j := 22) (l := 0) (u := 200) rfl
  have h493_ : a472_ 146 22 = a 146 22 := hf472_ 146 22 rfl
  have h494_ := iv_get hv474_ (k := 105) (j := 5) (l := 0) (u := 10) rfl
  have h495_ : a474_ 105 5 = a472_ 105 5 := hf474_ 105 5 rfl
  have h496_ := iv_get hv472_ (k := 105) (j := 5) (l := 0) (u := 10) rfl
  have h497_ : a472_ 105 5 = a 105 5 := hf472_ 105 5 rfl
  have h498_ := iv_get hv474_ (k := 146) (j := 68) (l := 0) (u := 10) rfl
  have h499_ : a474_ 146 68 = a472_ 146 68 := hf474_ 146 68 rfl
  have h500_ := iv_get hv472_ (k := 146) (j := 68) (l := 0) (u := 10) rfl
  have h501_ : a472_ 146 68 = a 146 68 := hf472_ 146 68 rfl
  exact hnext a474_ b hv474_ (WFW_fr (WFW_fr hg0 hf472_ (fun _ => rfl) (fun _ => rfl)) hf474_ (fun _ => rfl) (fun _ => rfl)) (SV_fr (SV_fr hg1 hf472_ (fun _ => rfl) (fun _ => rfl)) hf474_ (fun _ => rfl) (fun _ => rfl)) (OC_fr (OC_fr hg2 hf472_ rfl rfl (fun _ => rfl) (fun _ => rfl) (fun _ => rfl) (fun _ => rfl) (fun _ => rfl)) hf474_ rfl rfl (fun _ => rfl) (fun _ => rfl) (fun _ => rfl) (fun _ => rfl) (fun _ => rfl)) (FO_fr (FO_fr hg3 hf472_ rfl rfl (fun _ => rfl)) hf474_ rfl rfl (fun _ => rfl)) (FW_fr (FW_fr hg4 hf472_ rfl (fun _ => rfl)) hf474_ rfl (fun _ => rfl)) (TAPE_fr (TAPE_fr hg5 hf472_ (fun _ => rfl) (fun _ => rfl)) hf474_ (fun _ => rfl) (fun _ => rfl)) (show a474_ 4 6 = a474_ 146 2 from by omega) (show a474_ 2 1 = a474_ 146 22 from by omega) (show a474_ 105 5 = a474_ 146 68 from by omega)
theorem lw_op615 (E : jxE) (d : Nat) (hd : Nat.ble 60 (d + 1) = true) (hL : E.1 ≤ 3072) (y3 : Int) (hy0 : 0 ≤ y3) (hy1 : y3 + 6 ≤ E.1) (hnext : ∀ (a b : Nat → Nat → Int) (hv : iv a) (hg0 : WFW a) (hg1 : SV a) (hg2 : OC a) (hg3 : FO a) (hg4 : FW a) (hg5 : TAPE a) (hr0 : a 4 6 = a 146 2) (hr1 : a 2 1 = a 146 22) (hr2 : a 105 5 = a 146 68), jt (jxX E d 305 1189 [some (.inr (.inr (.inl 3000))), some (.inr (.inr (.inl 0))), some (.inr (.inr (.inl 146))), some (.inl y3)] [] (jxSH, a, b)) (fun v _ _ => v = [.inl 1])) (a b : Nat → Nat → Int) (hv : iv a) (hg0 : WFW a) (hg1 : SV a) (hg2 : OC a) (hg3 : FO a) (hg4 : FW a) (hg5 : TAPE a) (hr0 : a 4 6 = a 146 2) (hr1 : a 2 1 = a 146 22) (hr2 : a 105 5 = a 146 68) : jt (jxX E d 305 615 [some (.inr (.inr (.inl 3000))), some (.inr (.inr (.inl 0))), some (.inr (.inr (.inl 146))), some (.inl y3)] [] (jxSH, a, b)) (fun v _ _ => v = [.inl 1]) := by
  refine jt_eq (bq_law_615 E d y3 a b) ?_
  have h502_ := iv_get hv (k := 4) (j := 6) (l := 0) (u := 40) rfl
  have h503_ := iv_get hv (k := 146) (j := 2) (l := 0) (u := 40) rfl
  have h504_ := iv_get hv (k := 2) (j := 1) (l := 0) (u := 200) rfl
  have h505_ := iv_get hv (k := 146) (j := 22) (l := 0) (u := 200) rfl
  have h506_ := iv_get hv (k := 105) (j := 5) (l := 0) (u := 10) rfl
  have h507_ := iv_get hv (k := 146) (j := 68) (l := 0) (u := 10) rfl
  refine jt_bif (Nat.ble_eq_true_of_le (by omega)) ?_
  have h508_ : jxw (y3 + 1) = y3 + 1 := jxw_id (by omega) (by omega)
  refine jt_grd (by omega) ?_
  refine jt_bif (Nat.ble_eq_true_of_le (by omega)) ?_
  have h509_ : jxw (y3 + 2) = y3 + 2 := jxw_id (by omega) (by omega)
  refine jt_grd (by omega) ?_
  refine jt_eI (eq_X11_card E d (jd_le hd rfl) (E.2 ((jxw (y3 + 1)).toNat)) (E.2 ((jxw (y3 + 2)).toNat)) a b) ?_
  refine jt_eq (bq_law_630 E d y3 a b) ?_
  refine jt_bif (Nat.ble_eq_true_of_le (by omega)) ?_
  refine jt_grd (by omega) ?_
  refine jt_bif (Nat.ble_eq_true_of_le (by omega)) ?_
  refine jt_grd (by omega) ?_
  refine jt_bI (sp_X12_card E d (jd_le hd rfl) (E.2 ((jxw (y3 + 1)).toNat)) (E.2 ((jxw (y3 + 2)).toNat)) a b hv) (fun r510_ a510_ b510_ h510_ => ?_)
  obtain ⟨rfl, rfl, hq510_0⟩ := h510_
  have h511_ := iv_get hv (k := 146) (j := 9) (l := 0) (u := 300) rfl
  exact hnext a b hv hg0 hg1 hg2 hg3 hg4 hg5 (show a 4 6 = a 146 2 from by omega) (show a 2 1 = a 146 22 from by omega) (show a 105 5 = a 146 68 from by omega)
theorem lw_op648 (E : jxE) (d : Nat) (hd : Nat.ble 60 (d + 1) = true) (hL : E.1 ≤ 3072) (y3 : Int) (hy0 : 0 ≤ y3) (hy1 : y3 + 6 ≤ E.1) (hnext : ∀ (a b : Nat → Nat → Int) (hv : iv a) (hg0 : WFW a) (hg1 : SV a) (hg2 : OC a) (hg3 : FO a) (hg4 : FW a) (hg5 : TAPE a) (hr0 : a 4 6 = a 146 2) (hr1 : a 2 1 = a 146 22) (hr2 : a 105 5 = a 146 68), jt (jxX E d 305 1189 [some (.inr (.inr (.inl 3000))), some (.inr (.inr (.inl 0))), some (.inr (.inr (.inl 146))), some (.inl y3)] [] (jxSH, a, b)) (fun v _ _ => v = [.inl 1])) (a b : Nat → Nat → Int) (hv : iv a) (hg0 : WFW a) (hg1 : SV a) (hg2 : OC a) (hg3 : FO a) (hg4 : FW a) (hg5 : TAPE a) (hr0 : a 4 6 = a 146 2) (hr1 : a 2 1 = a 146 22) (hr2 : a 105 5 = a 146 68) : jt (jxX E d 305 648 [some (.inr (.inr (.inl 3000))), some (.inr (.inr (.inl 0))), some (.inr (.inr (.inl 146))), some (.inl y3)] [] (jxSH, a, b)) (fun v _ _ => v = [.inl 1]) := by
  refine jt_eq (bq_law_648 E d y3 a b) ?_
  have h512_ := iv_get hv (k := 4) (j := 6) (l := 0) (u := 40) rfl
  have h513_ := iv_get hv (k := 146) (j := 2) (l := 0) (u := 40) rfl
  have h514_ := iv_get hv (k := 2) (j := 1) (l := 0) (u := 200) rfl
  have h515_ := iv_get hv (k := 146) (j := 22) (l := 0) (u := 200) rfl
  have h516_ := iv_get hv (k := 105) (j := 5) (l := 0) (u := 10) rfl
  have h517_ := iv_get hv (k := 146) (j := 68) (l := 0) (u := 10) rfl
  refine jt_bif (Nat.ble_eq_true_of_le (by omega)) ?_
  have h518_ : jxw (y3 + 1) = y3 + 1 := jxw_id (by omega) (by omega)
  refine jt_grd (by omega) ?_
  refine jt_bif (Nat.ble_eq_true_of_le (by omega)) ?_
  have h519_ : jxw (y3 + 2) = y3 + 2 := jxw_id (by omega) (by omega)
  refine jt_grd (by omega) ?_
  refine jt_bif (Nat.ble_eq_true_of_le (by omega)) ?_
  have h520_ : jxw (y3 + 3) = y3 + 3 := jxw_id (by omega) (by omega)
  refine jt_grd (by omega) ?_
  refine jt_bI (sp_X11_state E d (jd_le hd rfl) (E.2 ((jxw (y3 + 1)).toNat)) (E.2 ((jxw (y3 + 2)).toNat)) (E.2 ((jxw (y3 + 3)).toNat)) a b hv) (fun r521_ a521_ b521_ h521_ => ?_)
  obtain ⟨rfl, rfl, hq521_0⟩ := h521_
  have h522_ := iv_get hv (k := 58) (j := 8) (l := 0) (u := 300) rfl
  refine jt_eq (bq_law_668 E d y3 a b) ?_
  refine jt_bif (Nat.ble_eq_true_of_le (by omega)) ?_
  refine jt_grd (by omega) ?_
  refine jt_bif (Nat.ble_eq_true_of_le (by omega)) ?_
  refine jt_grd (by omega) ?_
  refine jt_bif (Nat.ble_eq_true_of_le (by omega)) ?_
  refine jt_grd (by omega) ?_
  refine jt_bI (sp_X12_state E d (jd_le hd rfl) (E.2 ((jxw (y3 + 1)).toNat)) (E.2 ((jxw (y3 + 2)).toNat)) (E.2 ((jxw (y3 + 3)).toNat)) a b hv) (fun r523_ a523_ b523_ h523_ => ?_)
  obtain ⟨rfl, rfl, hq523_0⟩ := h523_
  have h524_ := iv_get hv (k := 146) (j := 9) (l := 0) (u := 300) rfl
  refine jt_eq (bq_law_688 E d y3 a b) ?_
  exact hnext a b hv hg0 hg1 hg2 hg3 hg4 hg5 (show a 4 6 = a 146 2 from by omega) (show a 2 1 = a 146 22 from by omega) (show a 105 5 = a 146 68 from by omega)
theorem lw_op691 (E : jxE) (d : Nat) (hd : Nat.ble 60 (d + 1) = true) (hL : E.1 ≤ 3072) (y3 : Int) (hy0 : 0 ≤ y3) (hy1 : y3 + 6 ≤ E.1) (hnext : ∀ (a b : Nat → Nat → Int) (hv : iv a) (hg0 : WFW a) (hg1 : SV a) (hg2 : OC a) (hg3 : FO a) (hg4 : FW a) (hg5 : TAPE a) (hr0 : a 4 6 = a 146 2) (hr1 : a 2 1 = a 146 22) (hr2 : a 105 5 = a 146 68), jt (jxX E d 305 1189 [some (.inr (.inr (.inl 3000))), some (.inr (.inr (.inl 0))), some (.inr (.inr (.inl 146))), some (.inl y3)] [] (jxSH, a, b)) (fun v _ _ => v = [.inl 1])) (a b : Nat → Nat → Int) (hv : iv a) (hg0 : WFW a) (hg1 : SV a) (hg2 : OC a) (hg3 : FO a) (hg4 : FW a) (hg5 : TAPE a) (hr0 : a 4 6 = a 146 2) (hr1 : a 2 1 = a 146 22) (hr2 : a 105 5 = a 146 68) : jt (jxX E d 305 691 [some (.inr (.inr (.inl 3000))), some (.inr (.inr (.inl 0))), some (.inr (.inr (.inl 146))), some (.inl y3)] [] (jxSH, a, b)) (fun v _ _ => v = [.inl 1]) := by
  refine jt_eq (bq_law_691 E d y3 a b) ?_
  have h525_ := iv_get hv (k := 4) (j := 6) (l := 0) (u := 40) rfl
  have h526_ := iv_get hv (k := 146) (j := 2) (l := 0) (u := 40) rfl
  have h527_ := iv_get hv (k := 2) (j := 1) (l := 0) (u := 200) rfl
  have h528_ := iv_get hv (k := 146) (j := 22) (l := 0) (u := 200) rfl
  have h529_ := iv_get hv (k := 105) (j := 5) (l := 0) (u := 10) rfl
  have h530_ := iv_get hv (k := 146) (j := 68) (l := 0) (u := 10) rfl
  refine jt_bif (Nat.ble_eq_true_of_le (by omega)) ?_
  have h531_ : jxw (y3 + 1) = y3 + 1 := jxw_id (by omega) (by omega)
  refine jt_grd (by omega) ?_
  refine jt_bif (Nat.ble_eq_true_of_le (by omega)) ?_
  have h532_ : jxw (y3 + 2) = y3 + 2 := jxw_id (by omega) (by omega)
  refine jt_grd (by omega) ?_
  refine jt_bI (sp_X11_about E d (jd_le hd rfl) (E.2 ((jxw (y3 + 1)).toNat)) (E.2 ((jxw (y3 + 2)).toNat)) a b hv) (fun r533_ a533_ b533_ h533_ => ?_)
  obtain ⟨hv533_, hf533_, rfl, hq533_0⟩ := h533_
  refine jt_eq (bq_law_706 E d y3 a533_ b) ?_
  refine jt_bif (Nat.ble_eq_true_of_le (by omega)) ?_
  refine jt_grd (by omega) ?_
  refine jt_bif (Nat.ble_eq_true_of_le (by omega)) ?_
  refine jt_grd (by omega) ?_
  refine jt_bI (sp_X12_about E d (jd_le hd rfl) (E.2 ((jxw (y3 + 1)).toNat)) (E.2 ((jxw (y3 + 2)).toNat)) a533_ b hv533_) (fun r534_ a534_ b534_ h534_ => ?_)
  obtain ⟨rfl, rfl, hq534_0⟩ := h534_
  have h535_ := iv_get hv533_ (k := 146) (j := 2) (l := 0) (u := 40) rfl
  have h536_ : a533_ 146 2 = a 146 2 := hf533_ 146 2 rfl
  have h537_ := iv_get hv533_ (k := 4) (j := 6) (l := 0) (u := 40) rfl
  have h538_ : a533_ 4 6 = a 4 6 := hf533_ 4 6 rfl
  have h539_ := iv_get hv533_ (k := 2) (j := 1) (l := 0) (u := 200) rfl
  have h540_ : a533_ 2 1 = a 2 1 := hf533_ 2 1 rfl
  have h541_ := iv_get hv533_ (k := 146) (j := 22) (l := 0) (u := 200) rfl
  have h542_ : a533_ 146 22 = a 146 22 := hf533_ 146 22 rfl
  have h543_ := iv_get hv533_ (k := 105) (j := 5) (l := 0) (u := 10) rfl
  have h544_ : a533_ 105 5 = a 105 5 := hf533_ 105 5 rfl
  have h545_ := iv_get hv533_ (k := 146) (j := 68) (l := 0) (u := 10) rfl
  have h546_ : a533_ 146 68 = a 146 68 := hf533_ 146 68 rfl
  exact hnext a533_ b hv533_ (WFW_fr hg0 hf533_ (fun _ => rfl) (fun _ => rfl)) (SV_fr hg1 hf533_ (fun _ => rfl) (fun _ => rfl)) (OC_fr hg2 hf533_ rfl rfl (fun _ => rfl) (fun _ => rfl) (fun _ => rfl) (fun _ => rfl) (fun _ => rfl)) (FO_fr hg3 hf533_ rfl rfl (fun _ => rfl)) (FW_fr hg4 hf533_ rfl (fun _ => rfl)) (TAPE_fr hg5 hf533_ (fun _ => rfl) (fun _ => rfl)) (show a533_ 4 6 = a533_ 146 2 from by omega) (show a533_ 2 1 = a533_ 146 22 from by omega) (show a533_ 105 5 = a533_ 146 68 from by omega)
theorem lw_op724 (E : jxE) (d : Nat) (hd : Nat.ble 60 (d + 1) = true) (hL : E.1 ≤ 3072) (y3 : Int) (hy0 : 0 ≤ y3) (hy1 : y3 + 6 ≤ E.1) (hnext : ∀ (a b : Nat → Nat → Int) (hv : iv a) (hg0 : WFW a) (hg1 : SV a) (hg2 : OC a) (hg3 : FO a) (hg4 : FW a) (hg5 : TAPE a) (hr0 : a 4 6 = a 146 2) (hr1 : a 2 1 = a 146 22) (hr2 : a 105 5 = a 146 68), jt (jxX E d 305 1189 [some (.inr (.inr (.inl 3000))), some (.inr (.inr (.inl 0))), some (.inr (.inr (.inl 146))), some (.inl y3)] [] (jxSH, a, b)) (fun v _ _ => v = [.inl 1])) (a b : Nat → Nat → Int) (hv : iv a) (hg0 : WFW a) (hg1 : SV a) (hg2 : OC a) (hg3 : FO a) (hg4 : FW a) (hg5 : TAPE a) (hr0 : a 4 6 = a 146 2) (hr1 : a 2 1 = a 146 22) (hr2 : a 105 5 = a 146 68) : jt (jxX E d 305 724 [some (.inr (.inr (.inl 3000))), some (.inr (.inr (.inl 0))), some (.inr (.inr (.inl 146))), some (.inl y3)] [] (jxSH, a, b)) (fun v _ _ => v = [.inl 1]) := by
  refine jt_eq (bq_law_724 E d y3 a b) ?_
  have h547_ := iv_get hv (k := 4) (j := 6) (l := 0) (u := 40) rfl
  have h548_ := iv_get hv (k := 146) (j := 2) (l := 0) (u := 40) rfl
  have h549_ := iv_get hv (k := 2) (j := 1) (l := 0) (u := 200) rfl
  have h550_ := iv_get hv (k := 146) (j := 22) (l := 0) (u := 200) rfl
  have h551_ := iv_get hv (k := 105) (j := 5) (l := 0) (u := 10) rfl
  have h552_ := iv_get hv (k := 146) (j := 68) (l := 0) (u := 10) rfl
  refine jt_bif (Nat.ble_eq_true_of_le (by omega)) ?_
  have h553_ : jxw (y3 + 1) = y3 + 1 := jxw_id (by omega) (by omega)
  refine jt_grd (by omega) ?_
  refine jt_bI (sp_X11_album E d (jd_le hd rfl) (E.2 ((jxw (y3 + 1)).toNat)) a b hv) (fun r554_ a554_ b554_ h554_ => ?_)
  obtain ⟨rfl, rfl, hq554_0⟩ := h554_
  refine jt_eq (bq_law_734 E d y3 a b) ?_
  refine jt_bif (Nat.ble_eq_true_of_le (by omega)) ?_
  refine jt_grd (by omega) ?_
  refine jt_bI (sp_X12_album E d (jd_le hd rfl) (E.2 ((jxw (y3 + 1)).toNat)) a b hv) (fun r555_ a555_ b555_ h555_ => ?_)
  obtain ⟨rfl, rfl, hq555_0⟩ := h555_
  exact hnext a b hv hg0 hg1 hg2 hg3 hg4 hg5 (show a 4 6 = a 146 2 from by omega) (show a 2 1 = a 146 22 from by omega) (show a 105 5 = a 146 68 from by omega)
theorem lw_op747 (E : jxE) (d : Nat) (hd : Nat.ble 60 (d + 1) = true) (hL : E.1 ≤ 3072) (y3 : Int) (hy0 : 0 ≤ y3) (hy1 : y3 + 6 ≤ E.1) (hnext : ∀ (a b : Nat → Nat → Int) (hv : iv a) (hg0 : WFW a) (hg1 : SV a) (hg2 : OC a) (hg3 : FO a) (hg4 : FW a) (hg5 : TAPE a) (hr0 : a 4 6 = a 146 2) (hr1 : a 2 1 = a 146 22) (hr2 : a 105 5 = a 146 68), jt (jxX E d 305 1189 [some (.inr (.inr (.inl 3000))), some (.inr (.inr (.inl 0))), some (.inr (.inr (.inl 146))), some (.inl y3)] [] (jxSH, a, b)) (fun v _ _ => v = [.inl 1])) (a b : Nat → Nat → Int) (hv : iv a) (hg0 : WFW a) (hg1 : SV a) (hg2 : OC a) (hg3 : FO a) (hg4 : FW a) (hg5 : TAPE a) (hr0 : a 4 6 = a 146 2) (hr1 : a 2 1 = a 146 22) (hr2 : a 105 5 = a 146 68) : jt (jxX E d 305 747 [some (.inr (.inr (.inl 3000))), some (.inr (.inr (.inl 0))), some (.inr (.inr (.inl 146))), some (.inl y3)] [] (jxSH, a, b)) (fun v _ _ => v = [.inl 1]) := by
  refine jt_eq (bq_law_747 E d y3 a b) ?_
  have h556_ := iv_get hv (k := 4) (j := 6) (l := 0) (u := 40) rfl
  have h557_ := iv_get hv (k := 146) (j := 2) (l := 0) (u := 40) rfl
  have h558_ := iv_get hv (k := 2) (j := 1) (l := 0) (u := 200) rfl
  have h559_ := iv_get hv (k := 146) (j := 22) (l := 0) (u := 200) rfl
  have h560_ := iv_get hv (k := 105) (j := 5) (l := 0) (u := 10) rfl
  have h561_ := iv_get hv (k := 146) (j := 68) (l := 0) (u := 10) rfl
  refine jt_bif (Nat.ble_eq_true_of_le (by omega)) ?_
  have h562_ : jxw (y3 + 1) = y3 + 1 := jxw_id (by omega) (by omega)
  refine jt_grd (by omega) ?_
  refine jt_bif (Nat.ble_eq_true_of_le (by omega)) ?_
  have h563_ : jxw (y3 + 2) = y3 + 2 := jxw_id (by omega) (by omega)
  refine jt_grd (by omega) ?_
  refine jt_bif (Nat.ble_eq_true_of_le (by omega)) ?_
  have h564_ : jxw (y3 + 3) = y3 + 3 := jxw_id (by omega) (by omega)
  refine jt_grd (by omega) ?_
  refine jt_bI (sp_X11_span E d (jd_le hd rfl) (E.2 ((jxw (y3 + 1)).toNat)) (E.2 ((jxw (y3 + 2)).toNat)) (E.2 ((jxw (y3 + 3)).toNat)) a b hv) (fun r565_ a565_ b565_ h565_ => ?_)
  obtain ⟨hv565_, hf565_, rfl, hq565_0⟩ := h565_
  have h566_ := iv_get hv (k := 58) (j := 12) (l := 0) (u := 600) rfl
  refine jt_eq (bq_law_767 E d y3 a565_ b) ?_
  refine jt_bif (Nat.ble_eq_true_of_le (by omega)) ?_
  refine jt_grd (by omega) ?_
  refine jt_bif (Nat.ble_eq_true_of_le (by omega)) ?_
  refine jt_grd (by omega) ?_
  refine jt_bif (Nat.ble_eq_true_of_le (by omega)) ?_
  refine jt_grd (by omega) ?_
  refine jt_bI (sp_X12_span E d (jd_le hd rfl) (E.2 ((jxw (y3 + 1)).toNat)) (E.2 ((jxw (y3 + 2)).toNat)) (E.2 ((jxw (y3 + 3)).toNat)) a565_ b hv565_) (fun r567_ a567_ b567_ h567_ => ?_)
  obtain ⟨hv567_, hf567_, rfl, hq567_0⟩ := h567_
  have h568_ := iv_get hv565_ (k := 146) (j := 17) (l := 0) (u := 600) rfl
  have h569_ : a565_ 146 17 = a 146 17 := hf565_ 146 17 rfl
  have h570_ := iv_get hv (k := 146) (j := 17) (l := 0) (u := 600) rfl
  refine jt_eq (bq_law_787 E d y3 a567_ b) ?_
  have h571_ := iv_get hv567_ (k := 4) (j := 6) (l := 0) (u := 40) rfl
  have h572_ : a567_ 4 6 = a565_ 4 6 := hf567_ 4 6 rfl
  have h573_ := iv_get hv565_ (k := 4) (j := 6) (l := 0) (u := 40) rfl
  have h574_ : a565_ 4 6 = a 4 6 := hf565_ 4 6 rfl
  have h575_ := iv_get hv567_ (k := 146) (j := 2) (l := 0) (u := 40) rfl
  have h576_ : a567_ 146 2 = a565_ 146 2 := hf567_ 146 2 rfl
  have h577_ := iv_get hv565_ (k := 146) (j := 2) (l := 0) (u := 40) rfl
  have h578_ : a565_ 146 2 = a 146 2 := hf565_ 146 2 rfl
  have h579_ := iv_get hv567_ (k := 2) (j := 1) (l := 0) (u := 200) rfl
  have h580_ : a567_ 2 1 = a565_ 2 1 := hf567_ 2 1 rfl
  have h581_ := iv_get hv565_ (k := 2) (j := 1) (l := 0) (u := 200) rfl
  have h582_ : a565_ 2 1 = a 2 1 := hf565_ 2 1 rfl
  have h583_ := iv_get hv567_ (k := 146) (j := 22) (l := 0) (u := 200) rfl
  have h584_ : a567_ 146 22 = a565_ 146 22 := hf567_ 146 22 rfl
  have h585_ := iv_get hv565_ (k := 146) (j := 22) (l := 0) (u := 200) rfl
  have h586_ : a565_ 146 22 = a 146 22 := hf565_ 146 22 rfl
  have h587_ := iv_get hv567_ (k := 105) (j := 5) (l := 0) (u := 10) rfl
  have h588_ : a567_ 105 5 = a565_ 105 5 := hf567_ 105 5 rfl
  have h589_ := iv_get hv565_ (k := 105) (j := 5) (l := 0) (u := 10) rfl
  have h590_ : a565_ 105 5 = a 105 5 := hf565_ 105 5 rfl
  have h591_ := iv_get hv567_ (k := 146) (j := 68) (l := 0) (u := 10) rfl
  have h592_ : a567_ 146 68 = a565_ 146 68 := hf567_ 146 68 rfl
  have h593_ := iv_get hv565_ (k := 146) (j := 68) (l := 0) (u := 10) rfl
  have h594_ : a565_ 146 68 = a 146 68 := hf565_ 146 68 rfl
  exact hnext a567_ b hv567_ (WFW_fr (WFW_fr hg0 hf565_ (fun _ => rfl) (fun _ => rfl)) hf567_ (fun _ => rfl) (fun _ => rfl)) (SV_fr (SV_fr hg1 hf565_ (fun _ => rfl) (fun _ => rfl)) hf567_ (fun _ => rfl) (fun _ => rfl)) (OC_fr (OC_fr hg2 hf565_ rfl rfl (fun _ => rfl) (fun _ => rfl) (fun _ => rfl) (fun _ => rfl) (fun _ => rfl)) hf567_ rfl rfl (fun _ => rfl) (fun _ => rfl) (fun _ => rfl) (fun _ => rfl) (fun _ => rfl)) (FO_fr (FO_fr hg3 hf565_ rfl rfl (fun _ => rfl)) hf567_ rfl rfl (fun _ => rfl)) (FW_fr (FW_fr hg4 hf565_ rfl (fun _ => rfl)) hf567_ rfl (fun _ => rfl)) (TAPE_fr (TAPE_fr hg5 hf565_ (fun _ => rfl) (fun _ => rfl)) hf567_ (fun _ => rfl) (fun _ => rfl)) (show a567_ 4 6 = a567_ 146 2 from by omega) (show a567_ 2 1 = a567_ 146 22 from by omega) (show a567_ 105 5 = a567_ 146 68 from by omega)
theorem lw_op790 (E : jxE) (d : Nat) (hd : Nat.ble 60 (d + 1) = true) (hL : E.1 ≤ 3072) (y3 : Int) (hy0 : 0 ≤ y3) (hy1 : y3 + 6 ≤ E.1) (hnext : ∀ (a b : Nat → Nat → Int) (hv : iv a) (hg0 : WFW a) (hg1 : SV a) (hg2 : OC a) (hg3 : FO a) (hg4 : FW a) (hg5 : TAPE a) (hr0 : a 4 6 = a 146 2) (hr1 : a 2 1 = a 146 22) (hr2 : a 105 5 = a 146 68), jt (jxX E d 305 1189 [some (.inr (.inr (.inl 3000))), some (.inr (.inr (.inl 0))), some (.inr (.inr (.inl 146))), some (.inl y3)] [] (jxSH, a, b)) (fun v _ _ => v = [.inl 1])) (a b : Nat → Nat → Int) (hv : iv a) (hg0 : WFW a) (hg1 : SV a) (hg2 : OC a) (hg3 : FO a) (hg4 : FW a) (hg5 : TAPE a) (hr0 : a 4 6 = a 146 2) (hr1 : a 2 1 = a 146 22) (hr2 : a 105 5 = a 146 68) : jt (jxX E d 305 790 [some (.inr (.inr (.inl 3000))), some (.inr (.inr (.inl 0))), some (.inr (.inr (.inl 146))), some (.inl y3)] [] (jxSH, a, b)) (fun v _ _ => v = [.inl 1]) := by
  refine jt_eq (bq_law_790 E d y3 a b) ?_
  have h595_ := iv_get hv (k := 4) (j := 6) (l := 0) (u := 40) rfl
  have h596_ := iv_get hv (k := 146) (j := 2) (l := 0) (u := 40) rfl
  have h597_ := iv_get hv (k := 2) (j := 1) (l := 0) (u := 200) rfl
  have h598_ := iv_get hv (k := 146) (j := 22) (l := 0) (u := 200) rfl
  have h599_ := iv_get hv (k := 105) (j := 5) (l := 0) (u := 10) rfl
  have h600_ := iv_get hv (k := 146) (j := 68) (l := 0) (u := 10) rfl
  refine jt_bif (Nat.ble_eq_true_of_le (by omega)) ?_
  have h601_ : jxw (y3 + 1) = y3 + 1 := jxw_id (by omega) (by omega)
  refine jt_grd (by omega) ?_
  refine jt_bif (Nat.ble_eq_true_of_le (by omega)) ?_
  have h602_ : jxw (y3 + 2) = y3 + 2 := jxw_id (by omega) (by omega)
  refine jt_grd (by omega) ?_
  refine jt_bif (Nat.ble_eq_true_of_le (by omega)) ?_
  have h603_ : jxw (y3 + 3) = y3 + 3 := jxw_id (by omega) (by omega)
  refine jt_grd (by omega) ?_
  refine jt_bI (sp_X11_offer E d (jd_le hd rfl) (E.2 ((jxw (y3 + 1)).toNat)) (E.2 ((jxw (y3 + 2)).toNat)) (E.2 ((jxw (y3 + 3)).toNat)) a b hv) (fun r604_ a604_ b604_ h604_ => ?_)
  obtain ⟨hv604_, hf604_, rfl, hq604_0, hq604_1⟩ := h604_
  have h605_ := iv_get hv (k := 83) (j := 6) (l := 0) (u := 20) rfl
  have h606_ := iv_get hv604_ (k := 83) (j := 6) (l := 0) (u := 20) rfl
  refine jt_eq (bq_law_810 E d y3 a604_ b) ?_
  refine jt_bif (Nat.ble_eq_true_of_le (by omega)) ?_
  refine jt_grd (by omega) ?_
  refine jt_bif (Nat.ble_eq_true_of_le (by omega)) ?_
  refine jt_grd (by omega) ?_
  refine jt_bif (Nat.ble_eq_true_of_le (by omega)) ?_
  refine jt_grd (by omega) ?_
  refine jt_bI (sp_X12_offer E d (jd_le hd rfl) (E.2 ((jxw (y3 + 1)).toNat)) (E.2 ((jxw (y3 + 2)).toNat)) (E.2 ((jxw (y3 + 3)).toNat)) a604_ b hv604_ (OC_fr hg2 hf604_ rfl rfl (fun _ => rfl) (fun _ => rfl) (fun _ => rfl) (fun _ => rfl) (fun _ => rfl)) (FO_fr hg3 hf604_ rfl rfl (fun _ => rfl)) (FW_fr hg4 hf604_ rfl (fun _ => rfl))) (fun r607_ a607_ b607_ h607_ => ?_)
  obtain ⟨hv607_, hf607_, rfl, hq607_0, hq607_1, hq607_2, hq607_3, hq607_4⟩ := h607_
  have h608_ := iv_get hv604_ (k := 146) (j := 2) (l := 0) (u := 40) rfl
  have h609_ : a604_ 146 2 = a 146 2 := hf604_ 146 2 rfl
  have h610_ := iv_get hv604_ (k := 152) (j := (E.2 ((jxw (y3 + 1)).toNat)).toNat) (l := 0) (u := 1) rfl
  have h611_ : a604_ 152 ((E.2 ((jxw (y3 + 1)).toNat)).toNat) = a 152 ((E.2 ((jxw (y3 + 1)).toNat)).toNat) := hf604_ 152 ((E.2 ((jxw (y3 + 1)).toNat)).toNat) rfl
  have h612_ := iv_get hv (k := 152) (j := (E.2 ((jxw (y3 + 1)).toNat)).toNat) (l := 0) (u := 1) rfl
  have h613_ := iv_get hv604_ (k := 146) (j := 49) (l := 0) (u := 20) rfl
  have h614_ : a604_ 146 49 = a 146 49 := hf604_ 146 49 rfl
  have h615_ := iv_get hv (k := 146) (j := 49) (l := 0) (u := 20) rfl
  have h616_ := iv_get hv607_ (k := 146) (j := 49) (l := 0) (u := 20) rfl
  refine jt_eq (bq_law_830 E d y3 a607_ b) ?_
  have h617_ := iv_get hv607_ (k := 4) (j := 6) (l := 0) (u := 40) rfl
  have h618_ : a607_ 4 6 = a604_ 4 6 := hf607_ 4 6 rfl
  have h619_ := iv_get hv604_ (k := 4) (j := 6) (l := 0) (u := 40) rfl
  have h620_ : a604_ 4 6 = a 4 6 := hf604_ 4 6 rfl
  have h621_ := iv_get hv607_ (k := 146) (j := 2) (l := 0) (u := 40) rfl
  have h622_ : a607_ 146 2 = a604_ 146 2 := hf607_ 146 2 rfl
  have h623_ := iv_get hv607_ (k := 2) (j := 1) (l := 0) (u := 200) rfl
  have h624_ : a607_ 2 1 = a604_ 2 1 := hf607_ 2 1 rfl
  have h625_ := iv_get hv604_ (k := 2) (j := 1) (l := 0) (u := 200) rfl
  have h626_ : a604_ 2 1 = a 2 1 := hf604_ 2 1 rfl
  have h627_ := iv_get hv607_ (k := 146) (j := 22) (l := 0) (u := 200) rfl
  have h628_ : a607_ 146 22 = a604_ 146 22 := hf607_ 146 22 rfl
  have h629_ := iv_get hv604_ (k := 146) (j := 22) (l := 0) (u := 200) rfl
  have h630_ : a604_ 146 22 = a 146 22 := hf604_ 146 22 rfl
  have h631_ := iv_get hv607_ (k := 105) (j := 5) (l := 0) (u := 10) rfl
  have h632_ : a607_ 105 5 = a604_ 105 5 := hf607_ 105 5 rfl
  have h633_ := iv_get hv604_ (k := 105) (j := 5) (l := 0) (u := 10) rfl
  have h634_ : a604_ 105 5 = a 105 5 := hf604_ 105 5 rfl
  have h635_ := iv_get hv607_ (k := 146) (j := 68) (l := 0) (u := 10) rfl
  have h636_ : a607_ 146 68 = a604_ 146 68 := hf607_ 146 68 rfl
  have h637_ := iv_get hv604_ (k := 146) (j := 68) (l := 0) (u := 10) rfl
  have h638_ : a604_ 146 68 = a 146 68 := hf604_ 146 68 rfl
  exact hnext a607_ b hv607_ (WFW_fr (WFW_fr hg0 hf604_ (fun _ => rfl) (fun _ => rfl)) hf607_ (fun _ => rfl) (fun _ => rfl)) (SV_fr (SV_fr hg1 hf604_ (fun _ => rfl) (fun _ => rfl)) hf607_ (fun _ => rfl) (fun _ => rfl)) hq607_0 hq607_1 hq607_2 (TAPE_fr (TAPE_fr hg5 hf604_ (fun _ => rfl) (fun _ => rfl)) hf607_ (fun _ => rfl) (fun _ => rfl)) (show a607_ 4 6 = a607_ 146 2 from by omega) (show a607_ 2 1 = a607_ 146 22 from by omega) (show a607_ 105 5 = a607_ 146 68 from by omega)
theorem lw_op833 (E : jxE) (d : Nat) (hd : Nat.ble 60 (d + 1) = true) (hL : E.1 ≤ 3072) (y3 : Int) (hy0 : 0 ≤ y3) (hy1 : y3 + 6 ≤ E.1) (hnext : ∀ (a b : Nat → Nat → Int) (hv : iv a) (hg0 : WFW a) (hg1 : SV a) (hg2 : OC a) (hg3 : FO a) (hg4 : FW a) (hg5 : TAPE a) (hr0 : a 4 6 = a 146 2) (hr1 : a 2 1 = a 146 22) (hr2 : a 105 5 = a 146 68), jt (jxX E d 305 1189 [some (.inr (.inr (.inl 3000))), some (.inr (.inr (.inl 0))), some (.inr (.inr (.inl 146))), some (.inl y3)] [] (jxSH, a, b)) (fun v _ _ => v = [.inl 1])) (a b : Nat → Nat → Int) (hv : iv a) (hg0 : WFW a) (hg1 : SV a) (hg2 : OC a) (hg3 : FO a) (hg4 : FW a) (hg5 : TAPE a) (hr0 : a 4 6 = a 146 2) (hr1 : a 2 1 = a 146 22) (hr2 : a 105 5 = a 146 68) : jt (jxX E d 305 833 [some (.inr (.inr (.inl 3000))), some (.inr (.inr (.inl 0))), some (.inr (.inr (.inl 146))), some (.inl y3)] [] (jxSH, a, b)) (fun v _ _ => v = [.inl 1]) := by
  refine jt_eq (bq_law_833 E d y3 a b) ?_
  have h639_ := iv_get hv (k := 4) (j := 6) (l := 0) (u := 40) rfl
  have h640_ := iv_get hv (k := 146) (j := 2) (l := 0) (u := 40) rfl
  have h641_ := iv_get hv (k := 2) (j := 1) (l := 0) (u := 200) rfl
  have h642_ := iv_get hv (k := 146) (j := 22) (l := 0) (u := 200) rfl
  have h643_ := iv_get hv (k := 105) (j := 5) (l := 0) (u := 10) rfl
  have h644_ := iv_get hv (k := 146) (j := 68) (l := 0) (u := 10) rfl
  refine jt_bif (Nat.ble_eq_true_of_le (by omega)) ?_
  have h645_ : jxw (y3 + 1) = y3 + 1 := jxw_id (by omega) (by omega)
  refine jt_grd (by omega) ?_
  refine jt_bI (sp_X11_away E d (jd_le hd rfl) (E.2 ((jxw (y3 + 1)).toNat)) a b hv) (fun r646_ a646_ b646_ h646_ => ?_)
  obtain ⟨hv646_, hf646_, rfl, hq646_0, hq646_1⟩ := h646_
  have h647_ := iv_get hv (k := 83) (j := 6) (l := 0) (u := 20) rfl
  refine jt_eq (bq_law_843 E d y3 a646_ b) ?_
  refine jt_bif (Nat.ble_eq_true_of_le (by omega)) ?_
  refine jt_grd (by omega) ?_
  refine jt_bI (sp_X12_away E d (jd_le hd rfl) (E.2 ((jxw (y3 + 1)).toNat)) a646_ b hv646_ (OC_fr hg2 hf646_ rfl rfl (fun _ => rfl) (fun _ => rfl) (fun _ => rfl) (fun _ => rfl) (fun _ => rfl))) (fun r648_ a648_ b648_ h648_ => ?_)
  obtain ⟨hv648_, hf648_, rfl, hq648_0, hq648_1, hq648_2⟩ := h648_
  have h649_ := iv_get hv646_ (k := 146) (j := 49) (l := 0) (u := 20) rfl
  have h650_ : a646_ 146 49 = a 146 49 := hf646_ 146 49 rfl
  have h651_ := iv_get hv (k := 146) (j := 49) (l := 0) (u := 20) rfl
  have h652_ := iv_get hv648_ (k := 4) (j := 6) (l := 0) (u := 40) rfl
  have h653_ : a648_ 4 6 = a646_ 4 6 := hf648_ 4 6 rfl
  have h654_ := iv_get hv646_ (k := 4) (j := 6) (l := 0) (u := 40) rfl
  have h655_ : a646_ 4 6 = a 4 6 := hf646_ 4 6 rfl
  have h656_ := iv_get hv648_ (k := 146) (j := 2) (l := 0) (u := 40) rfl
  have h657_ : a648_ 146 2 = a646_ 146 2 := hf648_ 146 2 rfl
  have h658_ := iv_get hv646_ (k := 146) (j := 2) (l := 0) (u := 40) rfl
  have h659_ : a646_ 146 2 = a 146 2 := hf646_ 146 2 rfl
  have h660_ := iv_get hv648_ (k := 2) (j := 1) (l := 0) (u := 200) rfl
  have h661_ : a648_ 2 1 = a646_ 2 1 := hf648_ 2 1 rfl
  have h662_ := iv_get hv646_ (k := 2) (j := 1) (l := 0) (u := 200) rfl
  have h663_ : a646_ 2 1 = a 2 1 := hf646_ 2 1 rfl
  have h664_ := iv_get hv648_ (k := 146) (j := 22) (l := 0) (u := 200) rfl
  have h665_ : a648_ 146 22 = a646_ 146 22 := hf648_ 146 22 rfl
  have h666_ := iv_get hv646_ (k := 146) (j := 22) (l := 0) (u := 200) rfl
  have h667_ : a646_ 146 22 = a 146 22 := hf646_ 146 22 rfl
  have h668_ := iv_get hv648_ (k := 105) (j := 5) (l := 0) (u := 10) rfl
  have h669_ : a648_ 105 5 = a646_ 105 5 := hf648_ 105 5 rfl
  have h670_ := iv_get hv646_ (k := 105) (j := 5) (l := 0) (u := 10) rfl
  have h671_ : a646_ 105 5 = a 105 5 := hf646_ 105 5 rfl
  have h672_ := iv_get hv648_ (k := 146) (j := 68) (l := 0) (u := 10) rfl
  have h673_ : a648_ 146 68 = a646_ 146 68 := hf648_ 146 68 rfl
  have h674_ := iv_get hv646_ (k := 146) (j := 68) (l := 0) (u := 10) rfl
  have h675_ : a646_ 146 68 = a 146 68 := hf646_ 146 68 rfl
  exact hnext a648_ b hv648_ (WFW_fr (WFW_fr hg0 hf646_ (fun _ => rfl) (fun _ => rfl)) hf648_ (fun _ => rfl) (fun _ => rfl)) (SV_fr (SV_fr hg1 hf646_ (fun _ => rfl) (fun _ => rfl)) hf648_ (fun _ => rfl) (fun _ => rfl)) hq648_1 (FO_fr (FO_fr hg3 hf646_ rfl rfl (fun _ => rfl)) hf648_ rfl rfl (fun _ => rfl)) (FW_fr (FW_fr hg4 hf646_ rfl (fun _ => rfl)) hf648_ rfl (fun _ => rfl)) (TAPE_fr (TAPE_fr hg5 hf646_ (fun _ => rfl) (fun _ => rfl)) hf648_ (fun _ => rfl) (fun _ => rfl)) (show a648_ 4 6 = a648_ 146 2 from by omega) (show a648_ 2 1 = a648_ 146 22 from by omega) (show a648_ 105 5 = a648_ 146 68 from by omega)
theorem lw_op856 (E : jxE) (d : Nat) (hd : Nat.ble 60 (d + 1) = true) (hL : E.1 ≤ 3072) (y3 : Int) (hy0 : 0 ≤ y3) (hy1 : y3 + 6 ≤ E.1) (hnext : ∀ (a b : Nat → Nat → Int) (hv : iv a) (hg0 : WFW a) (hg1 : SV a) (hg2 : OC a) (hg3 : FO a) (hg4 : FW a) (hg5 : TAPE a) (hr0 : a 4 6 = a 146 2) (hr1 : a 2 1 = a 146 22) (hr2 : a 105 5 = a 146 68), jt (jxX E d 305 1189 [some (.inr (.inr (.inl 3000))), some (.inr (.inr (.inl 0))), some (.inr (.inr (.inl 146))), some (.inl y3)] [] (jxSH, a, b)) (fun v _ _ => v = [.inl 1])) (a b : Nat → Nat → Int) (hv : iv a) (hg0 : WFW a) (hg1 : SV a) (hg2 : OC a) (hg3 : FO a) (hg4 : FW a) (hg5 : TAPE a) (hr0 : a 4 6 = a 146 2) (hr1 : a 2 1 = a 146 22) (hr2 : a 105 5 = a 146 68) : jt (jxX E d 305 856 [some (.inr (.inr (.inl 3000))), some (.inr (.inr (.inl 0))), some (.inr (.inr (.inl 146))), some (.inl y3)] [] (jxSH, a, b)) (fun v _ _ => v = [.inl 1]) := by
  refine jt_eq (bq_law_856 E d y3 a b) ?_
  have h676_ := iv_get hv (k := 4) (j := 6) (l := 0) (u := 40) rfl
  have h677_ := iv_get hv (k := 146) (j := 2) (l := 0) (u := 40) rfl
  have h678_ := iv_get hv (k := 2) (j := 1) (l := 0) (u := 200) rfl
  have h679_ := iv_get hv (k := 146) (j := 22) (l := 0) (u := 200) rfl
  have h680_ := iv_get hv (k := 105) (j := 5) (l := 0) (u := 10) rfl
  have h681_ := iv_get hv (k := 146) (j := 68) (l := 0) (u := 10) rfl
  refine jt_bI (sp_X11_rings E d (jd_le hd rfl) a b hv) (fun r682_ a682_ b682_ h682_ => ?_)
  obtain ⟨hv682_, hf682_, hq682_0⟩ := h682_
  have h683_ := iv_get hv (k := 83) (j := 6) (l := 0) (u := 20) rfl
  refine jt_eq (bq_law_861 E d y3 a682_ b682_) ?_
  refine jt_bI (sp_X12_rings E d (jd_le hd rfl) a682_ b682_ hv682_ (FO_fr hg3 hf682_ rfl rfl (fun _ => rfl)) (FW_fr hg4 hf682_ rfl (fun _ => rfl))) (fun r684_ a684_ b684_ h684_ => ?_)
  obtain ⟨hv684_, hf684_, rfl, hq684_0, hq684_1, hq684_2⟩ := h684_
  have h685_ := iv_get hv682_ (k := 146) (j := 49) (l := 0) (u := 20) rfl
  have h686_ : a682_ 146 49 = a 146 49 := hf682_ 146 49 rfl
  have h687_ := iv_get hv (k := 146) (j := 49) (l := 0) (u := 20) rfl
  have h688_ := iv_get hv684_ (k := 4) (j := 6) (l := 0) (u := 40) rfl
  have h689_ : a684_ 4 6 = a682_ 4 6 := hf684_ 4 6 rfl
  have h690_ := iv_get hv682_ (k := 4) (j := 6) (l := 0) (u := 40) rfl
  have h691_ : a682_ 4 6 = a 4 6 := hf682_ 4 6 rfl
  have h692_ := iv_get hv684_ (k := 146) (j := 2) (l := 0) (u := 40) rfl
  have h693_ : a684_ 146 2 = a682_ 146 2 := hf684_ 146 2 rfl
  have h694_ := iv_get hv682_ (k := 146) (j := 2) (l := 0) (u := 40) rfl
  have h695_ : a682_ 146 2 = a 146 2 := hf682_ 146 2 rfl
  have h696_ := iv_get hv684_ (k := 2) (j := 1) (l := 0) (u := 200) rfl
  have h697_ : a684_ 2 1 = a682_ 2 1 := hf684_ 2 1 rfl
  have h698_ := iv_get hv682_ (k := 2) (j := 1) (l := 0) (u := 200) rfl
  have h699_ : a682_ 2 1 = a 2 1 := hf682_ 2 1 rfl
  have h700_ := iv_get hv684_ (k := 146) (j := 22) (l := 0) (u := 200) rfl
  have h701_ : a684_ 146 22 = a682_ 146 22 := hf684_ 146 22 rfl
  have h702_ := iv_get hv682_ (k := 146) (j := 22) (l := 0) (u := 200) rfl
  have h703_ : a682_ 146 22 = a 146 22 := hf682_ 146 22 rfl
  have h704_ := iv_get hv684_ (k := 105) (j := 5) (l := 0) (u := 10) rfl
  have h705_ : a684_ 105 5 = a682_ 105 5 := hf684_ 105 5 rfl
  have h706_ := iv_get hv682_ (k := 105) (j := 5) (l := 0) (u := 10) rfl
  have h707_ : a682_ 105 5 = a 105 5 := hf682_ 105 5 rfl
  have h708_ := iv_get hv684_ (k := 146) (j := 68) (l := 0) (u := 10) rfl
  have h709_ : a684_ 146 68 = a682_ 146 68 := hf684_ 146 68 rfl
  have h710_ := iv_get hv682_ (k := 146) (j := 68) (l := 0) (u := 10) rfl
  have h711_ : a682_ 146 68 = a 146 68 := hf682_ 146 68 rfl
  exact hnext a684_ b682_ hv684_ (WFW_fr (WFW_fr hg0 hf682_ (fun _ => rfl) (fun _ => rfl)) hf684_ (fun _ => rfl) (fun _ => rfl)) (SV_fr (SV_fr hg1 hf682_ (fun _ => rfl) (fun _ => rfl)) hf684_ (fun _ => rfl) (fun _ => rfl)) (OC_fr (OC_fr hg2 hf682_ rfl rfl (fun _ => rfl) (fun _ => rfl) (fun _ => rfl) (fun _ => rfl) (fun _ => rfl)) hf684_ rfl rfl (fun _ => rfl) (fun _ => rfl) (fun _ => rfl) (fun _ => rfl) (fun _ => rfl)) hq684_0 hq684_1 (TAPE_fr (TAPE_fr hg5 hf682_ (fun _ => rfl) (fun _ => rfl)) hf684_ (fun _ => rfl) (fun _ => rfl)) (show a684_ 4 6 = a684_ 146 2 from by omega) (show a684_ 2 1 = a684_ 146 22 from by omega) (show a684_ 105 5 = a684_ 146 68 from by omega)
theorem lw_op869 (E : jxE) (d : Nat) (hd : Nat.ble 60 (d + 1) = true) (hL : E.1 ≤ 3072) (y3 : Int) (hy0 : 0 ≤ y3) (hy1 : y3 + 6 ≤ E.1) (hnext : ∀ (a b : Nat → Nat → Int) (hv : iv a) (hg0 : WFW a) (hg1 : SV a) (hg2 : OC a) (hg3 : FO a) (hg4 : FW a) (hg5 : TAPE a) (hr0 : a 4 6 = a 146 2) (hr1 : a 2 1 = a 146 22) (hr2 : a 105 5 = a 146 68), jt (jxX E d 305 1189 [some (.inr (.inr (.inl 3000))), some (.inr (.inr (.inl 0))), some (.inr (.inr (.inl 146))), some (.inl y3)] [] (jxSH, a, b)) (fun v _ _ => v = [.inl 1])) (a b : Nat → Nat → Int) (hv : iv a) (hg0 : WFW a) (hg1 : SV a) (hg2 : OC a) (hg3 : FO a) (hg4 : FW a) (hg5 : TAPE a) (hr0 : a 4 6 = a 146 2) (hr1 : a 2 1 = a 146 22) (hr2 : a 105 5 = a 146 68) : jt (jxX E d 305 869 [some (.inr (.inr (.inl 3000))), some (.inr (.inr (.inl 0))), some (.inr (.inr (.inl 146))), some (.inl y3)] [] (jxSH, a, b)) (fun v _ _ => v = [.inl 1]) := by
  refine jt_eq (bq_law_869 E d y3 a b) ?_
  have h712_ := iv_get hv (k := 4) (j := 6) (l := 0) (u := 40) rfl
  have h713_ := iv_get hv (k := 146) (j := 2) (l := 0) (u := 40) rfl
  have h714_ := iv_get hv (k := 2) (j := 1) (l := 0) (u := 200) rfl
  have h715_ := iv_get hv (k := 146) (j := 22) (l := 0) (u := 200) rfl
  have h716_ := iv_get hv (k := 105) (j := 5) (l := 0) (u := 10) rfl
  have h717_ := iv_get hv (k := 146) (j := 68) (l := 0) (u := 10) rfl
  refine jt_bif (Nat.ble_eq_true_of_le (by omega)) ?_
  have h718_ : jxw (y3 + 1) = y3 + 1 := jxw_id (by omega) (by omega)
  refine jt_grd (by omega) ?_
  refine jt_bif (Nat.ble_eq_true_of_le (by omega)) ?_
  have h719_ : jxw (y3 + 2) = y3 + 2 := jxw_id (by omega) (by omega)
  refine jt_grd (by omega) ?_
  refine jt_eI (eq_X11_ring E d (jd_le hd rfl) (E.2 ((jxw (y3 + 1)).toNat)) (E.2 ((jxw (y3 + 2)).toNat)) a b) ?_
  refine jt_eq (bq_law_884 E d y3 a b) ?_
  refine jt_bif (Nat.ble_eq_true_of_le (by omega)) ?_
  refine jt_grd (by omega) ?_
  refine jt_bif (Nat.ble_eq_true_of_le (by omega)) ?_
  refine jt_grd (by omega) ?_
  refine jt_eI (eq_X12_ring E d (jd_le hd rfl) (E.2 ((jxw (y3 + 1)).toNat)) (E.2 ((jxw (y3 + 2)).toNat)) a b hv) ?_
  exact hnext a b hv hg0 hg1 hg2 hg3 hg4 hg5 (show a 4 6 = a 146 2 from by omega) (show a 2 1 = a 146 22 from by omega) (show a 105 5 = a 146 68 from by omega)
theorem lw_op902 (E : jxE) (d : Nat) (hd : Nat.ble 60 (d + 1) = true) (hL : E.1 ≤ 3072) (y3 : Int) (hy0 : 0 ≤ y3) (hy1 : y3 + 6 ≤ E.1) (hnext : ∀ (a b : Nat → Nat → Int) (hv : iv a) (hg0 : WFW a) (hg1 : SV a) (hg2 : OC a) (hg3 : FO a) (hg4 : FW a) (hg5 : TAPE a) (hr0 : a 4 6 = a 146 2) (hr1 : a 2 1 = a 146 22) (hr2 : a 105 5 = a 146 68), jt (jxX E d 305 1189 [some (.inr (.inr (.inl 3000))), some (.inr (.inr (.inl 0))), some (.inr (.inr (.inl 146))), some (.inl y3)] [] (jxSH, a, b)) (fun v _ _ => v = [.inl 1])) (a b : Nat → Nat → Int) (hv : iv a) (hg0 : WFW a) (hg1 : SV a) (hg2 : OC a) (hg3 : FO a) (hg4 : FW a) (hg5 : TAPE a) (hr0 : a 4 6 = a 146 2) (hr1 : a 2 1 = a 146 22) (hr2 : a 105 5 = a 146 68) : jt (jxX E d 305 902 [some (.inr (.inr (.inl 3000))), some (.inr (.inr (.inl 0))), some (.inr (.inr (.inl 146))), some (.inl y3)] [] (jxSH, a, b)) (fun v _ _ => v = [.inl 1]) := by
  refine jt_eq (bq_law_902 E d y3 a b) ?_
  have h720_ := iv_get hv (k := 4) (j := 6) (l := 0) (u := 40) rfl
  have h721_ := iv_get hv (k := 146) (j := 2) (l := 0) (u := 40) rfl
  have h722_ := iv_get hv (k := 2) (j := 1) (l := 0) (u := 200) rfl
  have h723_ := iv_get hv (k := 146) (j := 22) (l := 0) (u := 200) rfl
  have h724_ := iv_get hv (k := 105) (j := 5) (l := 0) (u := 10) rfl
  have h725_ := iv_get hv (k := 146) (j := 68) (l := 0) (u := 10) rfl
  refine jt_bif (Nat.ble_eq_true_of_le (by omega)) ?_
  have h726_ : jxw (y3 + 1) = y3 + 1 := jxw_id (by omega) (by omega)
  refine jt_grd (by omega) ?_
  refine jt_bI (sp_X11_close E d (jd_le hd rfl) (E.2 ((jxw (y3 + 1)).toNat)) a b hv) (fun r727_ a727_ b727_ h727_ => ?_)
  obtain ⟨hv727_, hf727_, rfl, hq727_0⟩ := h727_
  have h728_ := iv_get hv (k := 90) (j := 12) (l := 0) (u := 6) rfl
  refine jt_eq (bq_law_912 E d y3 a727_ b) ?_
  refine jt_bif (Nat.ble_eq_true_of_le (by omega)) ?_
  refine jt_grd (by omega) ?_
  refine jt_bI (sp_X12_close E d (jd_le hd rfl) (E.2 ((jxw (y3 + 1)).toNat)) a727_ b hv727_ (OC_fr hg2 hf727_ rfl rfl (fun _ => rfl) (fun _ => rfl) (fun _ => rfl) (fun _ => rfl) (fun _ => rfl)) (FO_fr hg3 hf727_ rfl rfl (fun _ => rfl))) (fun r729_ a729_ b729_ h729_ => ?_)
  obtain ⟨hv729_, hf729_, rfl, hq729_0, hq729_1⟩ := h729_
  have h730_ := iv_get hv727_ (k := 146) (j := 64) (l := 0) (u := 6) rfl
  have h731_ : a727_ 146 64 = a 146 64 := hf727_ 146 64 rfl
  have h732_ := iv_get hv (k := 146) (j := 64) (l := 0) (u := 6) rfl
  have h733_ := iv_get hv729_ (k := 4) (j := 6) (l := 0) (u := 40) rfl
  have h734_ : a729_ 4 6 = a727_ 4 6 := hf729_ 4 6 rfl
  have h735_ := iv_get hv727_ (k := 4) (j := 6) (l := 0) (u := 40) rfl
  have h736_ : a727_ 4 6 = a 4 6 := hf727_ 4 6 rfl
  have h737_ := iv_get hv729_ (k := 146) (j := 2) (l := 0) (u := 40) rfl
  have h738_ : a729_ 146 2 = a727_ 146 2 := hf729_ 146 2 rfl
  have h739_ := iv_get hv727_ (k := 146) (j := 2) (l := 0) (u := 40) rfl
  have h740_ : a727_ 146 2 = a 146 2 := hf727_ 146 2 rfl
  have h741_ := iv_get hv729_ (k := 2) (j := 1) (l := 0) (u := 200) rfl
  have h742_ : a729_ 2 1 = a727_ 2 1 := hf729_ 2 1 rfl
  have h743_ := iv_get hv727_ (k := 2) (j := 1) (l := 0) (u := 200) rfl
  have h744_ : a727_ 2 1 = a 2 1 := hf727_ 2 1 rfl
  have h745_ := iv_get hv729_ (k := 146) (j := 22) (l := 0) (u := 200) rfl
  have h746_ : a729_ 146 22 = a727_ 146 22 := hf729_ 146 22 rfl
  have h747_ := iv_get hv727_ (k := 146) (j := 22) (l := 0) (u := 200) rfl
  have h748_ : a727_ 146 22 = a 146 22 := hf727_ 146 22 rfl
  have h749_ := iv_get hv729_ (k := 105) (j := 5) (l := 0) (u := 10) rfl
  have h750_ : a729_ 105 5 = a727_ 105 5 := hf729_ 105 5 rfl
  have h751_ := iv_get hv727_ (k := 105) (j := 5) (l := 0) (u := 10) rfl
  have h752_ : a727_ 105 5 = a 105 5 := hf727_ 105 5 rfl
  have h753_ := iv_get hv729_ (k := 146) (j := 68) (l := 0) (u := 10) rfl
  have h754_ : a729_ 146 68 = a727_ 146 68 := hf729_ 146 68 rfl
  have h755_ := iv_get hv727_ (k := 146) (j := 68) (l := 0) (u := 10) rfl
  have h756_ : a727_ 146 68 = a 146 68 := hf727_ 146 68 rfl
  exact hnext a729_ b hv729_ (WFW_fr (WFW_fr hg0 hf727_ (fun _ => rfl) (fun _ => rfl)) hf729_ (fun _ => rfl) (fun _ => rfl)) (SV_fr (SV_fr hg1 hf727_ (fun _ => rfl) (fun _ => rfl)) hf729_ (fun _ => rfl) (fun _ => rfl)) hq729_0 (FO_fr (FO_fr hg3 hf727_ rfl rfl (fun _ => rfl)) hf729_ rfl rfl (fun _ => rfl)) (FW_fr (FW_fr hg4 hf727_ rfl (fun _ => rfl)) hf729_ rfl (fun _ => rfl)) (TAPE_fr (TAPE_fr hg5 hf727_ (fun _ => rfl) (fun _ => rfl)) hf729_ (fun _ => rfl) (fun _ => rfl)) (show a729_ 4 6 = a729_ 146 2 from by omega) (show a729_ 2 1 = a729_ 146 22 from by omega) (show a729_ 105 5 = a729_ 146 68 from by omega)
theorem lw_op925 (E : jxE) (d : Nat) (hd : Nat.ble 60 (d + 1) = true) (hL : E.1 ≤ 3072) (y3 : Int) (hy0 : 0 ≤ y3) (hy1 : y3 + 6 ≤ E.1) (hnext : ∀ (a b : Nat → Nat → Int) (hv : iv a) (hg0 : WFW a) (hg1 : SV a) (hg2 : OC a) (hg3 : FO a) (hg4 : FW a) (hg5 : TAPE a) (hr0 : a 4 6 = a 146 2) (hr1 : a 2 1 = a 146 22) (hr2 : a 105 5 = a 146 68), jt (jxX E d 305 1189 [some (.inr (.inr (.inl 3000))), some (.inr (.inr (.inl 0))), some (.inr (.inr (.inl 146))), some (.inl y3)] [] (jxSH, a, b)) (fun v _ _ => v = [.inl 1])) (a b : Nat → Nat → Int) (hv : iv a) (hg0 : WFW a) (hg1 : SV a) (hg2 : OC a) (hg3 : FO a) (hg4 : FW a) (hg5 : TAPE a) (hr0 : a 4 6 = a 146 2) (hr1 : a 2 1 = a 146 22) (hr2 : a 105 5 = a 146 68) : jt (jxX E d 305 925 [some (.inr (.inr (.inl 3000))), some (.inr (.inr (.inl 0))), some (.inr (.inr (.inl 146))), some (.inl y3)] [] (jxSH, a, b)) (fun v _ _ => v = [.inl 1]) := by
  refine jt_eq (bq_law_925 E d y3 a b) ?_
  have h757_ := iv_get hv (k := 4) (j := 6) (l := 0) (u := 40) rfl
  have h758_ := iv_get hv (k := 146) (j := 2) (l := 0) (u := 40) rfl
  have h759_ := iv_get hv (k := 2) (j := 1) (l := 0) (u := 200) rfl
  have h760_ := iv_get hv (k := 146) (j := 22) (l := 0) (u := 200) rfl
  have h761_ := iv_get hv (k := 105) (j := 5) (l := 0) (u := 10) rfl
  have h762_ := iv_get hv (k := 146) (j := 68) (l := 0) (u := 10) rfl
  refine jt_bif (Nat.ble_eq_true_of_le (by omega)) ?_
  have h763_ : jxw (y3 + 1) = y3 + 1 := jxw_id (by omega) (by omega)
  refine jt_grd (by omega) ?_
  refine jt_bif (Nat.ble_eq_true_of_le (by omega)) ?_
  have h764_ : jxw (y3 + 2) = y3 + 2 := jxw_id (by omega) (by omega)
  refine jt_grd (by omega) ?_
  refine jt_bI (sp_X11_drop E d (jd_le hd rfl) (E.2 ((jxw (y3 + 1)).toNat)) (E.2 ((jxw (y3 + 2)).toNat)) a b hv) (fun r765_ a765_ b765_ h765_ => ?_)
  obtain ⟨hv765_, hf765_, rfl, hq765_0⟩ := h765_
  have h766_ := iv_get hv (k := 83) (j := 6) (l := 0) (u := 20) rfl
  refine jt_eq (bq_law_940 E d y3 a765_ b) ?_
  refine jt_bif (Nat.ble_eq_true_of_le (by omega)) ?_
  refine jt_grd (by omega) ?_
  refine jt_bif (Nat.ble_eq_true_of_le (by omega)) ?_
  refine jt_grd (by omega) ?_
  refine jt_bI (sp_X12_drop E d (jd_le hd rfl) (E.2 ((jxw (y3 + 1)).toNat)) (E.2 ((jxw (y3 + 2)).toNat)) a765_ b hv765_ (OC_fr hg2 hf765_ rfl rfl (fun _ => rfl) (fun _ => rfl) (fun _ => rfl) (fun _ => rfl) (fun _ => rfl))) (fun r767_ a767_ b767_ h767_ => ?_)
  obtain ⟨hv767_, hf767_, rfl, hq767_0, hq767_1⟩ := h767_
  have h768_ : a765_ 146 55 = a 146 55 := hf765_ 146 55 rfl
  have h769_ := iv_get hv767_ (k := 4) (j := 6) (l := 0) (u := 40) rfl
  have h770_ : a767_ 4 6 = a765_ 4 6 := hf767_ 4 6 rfl
  have h771_ := iv_get hv765_ (k := 4) (j := 6) (l := 0) (u := 40) rfl
  have h772_ : a765_ 4 6 = a 4 6 := hf765_ 4 6 rfl
  have h773_ := iv_get hv767_ (k := 146) (j := 2) (l := 0) (u := 40) rfl
  have h774_ : a767_ 146 2 = a765_ 146 2 := hf767_ 146 2 rfl
  have h775_ := iv_get hv765_ (k := 146) (j := 2) (l := 0) (u := 40) rfl
  have h776_ : a765_ 146 2 = a 146 2 := hf765_ 146 2 rfl
  have h777_ := iv_get hv767_ (k := 2) (j := 1) (l := 0) (u := 200) rfl
  have h778_ : a767_ 2 1 = a765_ 2 1 := hf767_ 2 1 rfl
  have h779_ := iv_get hv765_ (k := 2) (j := 1) (l := 0) (u := 200) rfl
  have h780_ : a765_ 2 1 = a 2 1 := hf765_ 2 1 rfl
  have h781_ := iv_get hv767_ (k := 146) (j := 22) (l := 0) (u := 200) rfl
  have h782_ : a767_ 146 22 = a765_ 146 22 := hf767_ 146 22 rfl
  have h783_ := iv_get hv765_ (k := 146) (j := 22) (l := 0) (u := 200) rfl
  have h784_ : a765_ 146 22 = a 146 22 := hf765_ 146 22 rfl
  have h785_ := iv_get hv767_ (k := 105) (j := 5) (l := 0) (u := 10) rfl
  have h786_ : a767_ 105 5 = a765_ 105 5 := hf767_ 105 5 rfl
  have h787_ := iv_get hv765_ (k := 105) (j := 5) (l := 0) (u := 10) rfl
  have h788_ : a765_ 105 5 = a 105 5 := hf765_ 105 5 rfl
  have h789_ := iv_get hv767_ (k := 146) (j := 68) (l := 0) (u := 10) rfl
  have h790_ : a767_ 146 68 = a765_ 146 68 := hf767_ 146 68 rfl
  have h791_ := iv_get hv765_ (k := 146) (j := 68) (l := 0) (u := 10) rfl
  have h792_ : a765_ 146 68 = a 146 68 := hf765_ 146 68 rfl
  exact hnext a767_ b hv767_ (WFW_fr (WFW_fr hg0 hf765_ (fun _ => rfl) (fun _ => rfl)) hf767_ (fun _ => rfl) (fun _ => rfl)) (SV_fr (SV_fr hg1 hf765_ (fun _ => rfl) (fun _ => rfl)) hf767_ (fun _ => rfl) (fun _ => rfl)) hq767_0 (FO_fr (FO_fr hg3 hf765_ rfl rfl (fun _ => rfl)) hf767_ rfl rfl (fun _ => rfl)) (FW_fr (FW_fr hg4 hf765_ rfl (fun _ => rfl)) hf767_ rfl (fun _ => rfl)) (TAPE_fr (TAPE_fr hg5 hf765_ (fun _ => rfl) (fun _ => rfl)) hf767_ (fun _ => rfl) (fun _ => rfl)) (show a767_ 4 6 = a767_ 146 2 from by omega) (show a767_ 2 1 = a767_ 146 22 from by omega) (show a767_ 105 5 = a767_ 146 68 from by omega)
theorem lw_op958 (E : jxE) (d : Nat) (hd : Nat.ble 60 (d + 1) = true) (hL : E.1 ≤ 3072) (y3 : Int) (hy0 : 0 ≤ y3) (hy1 : y3 + 6 ≤ E.1) (hnext : ∀ (a b : Nat → Nat → Int) (hv : iv a) (hg0 : WFW a) (hg1 : SV a) (hg2 : OC a) (hg3 : FO a) (hg4 : FW a) (hg5 : TAPE a) (hr0 : a 4 6 = a 146 2) (hr1 : a 2 1 = a 146 22) (hr2 : a 105 5 = a 146 68), jt (jxX E d 305 1189 [some (.inr (.inr (.inl 3000))), some (.inr (.inr (.inl 0))), some (.inr (.inr (.inl 146))), some (.inl y3)] [] (jxSH, a, b)) (fun v _ _ => v = [.inl 1])) (a b : Nat → Nat → Int) (hv : iv a) (hg0 : WFW a) (hg1 : SV a) (hg2 : OC a) (hg3 : FO a) (hg4 : FW a) (hg5 : TAPE a) (hr0 : a 4 6 = a 146 2) (hr1 : a 2 1 = a 146 22) (hr2 : a 105 5 = a 146 68) : jt (jxX E d 305 958 [some (.inr (.inr (.inl 3000))), some (.inr (.inr (.inl 0))), some (.inr (.inr (.inl 146))), some (.inl y3)] [] (jxSH, a, b)) (fun v _ _ => v = [.inl 1]) := by
  refine jt_eq (bq_law_958 E d y3 a b) ?_
  have h793_ := iv_get hv (k := 4) (j := 6) (l := 0) (u := 40) rfl
  have h794_ := iv_get hv (k := 146) (j := 2) (l := 0) (u := 40) rfl
  have h795_ := iv_get hv (k := 2) (j := 1) (l := 0) (u := 200) rfl
  have h796_ := iv_get hv (k := 146) (j := 22) (l := 0) (u := 200) rfl
  have h797_ := iv_get hv (k := 105) (j := 5) (l := 0) (u := 10) rfl
  have h798_ := iv_get hv (k := 146) (j := 68) (l := 0) (u := 10) rfl
  refine jt_bif (Nat.ble_eq_true_of_le (by omega)) ?_
  have h799_ : jxw (y3 + 1) = y3 + 1 := jxw_id (by omega) (by omega)
  refine jt_grd (by omega) ?_
  refine jt_bif (Nat.ble_eq_true_of_le (by omega)) ?_
  have h800_ : jxw (y3 + 2) = y3 + 2 := jxw_id (by omega) (by omega)
  refine jt_grd (by omega) ?_
  refine jt_eI (eq_X11_offers E d (jd_le hd rfl) (E.2 ((jxw (y3 + 1)).toNat)) (E.2 ((jxw (y3 + 2)).toNat)) a b) ?_
  refine jt_eq (bq_law_973 E d y3 a b) ?_
  refine jt_bif (Nat.ble_eq_true_of_le (by omega)) ?_
  refine jt_grd (by omega) ?_
  refine jt_bif (Nat.ble_eq_true_of_le (by omega)) ?_
  refine jt_grd (by omega) ?_
  refine jt_eI (eq_X12_offers E d (jd_le hd rfl) (E.2 ((jxw (y3 + 1)).toNat)) (E.2 ((jxw (y3 + 2)).toNat)) a b hv) ?_
  exact hnext a b hv hg0 hg1 hg2 hg3 hg4 hg5 (show a 4 6 = a 146 2 from by omega) (show a 2 1 = a 146 22 from by omega) (show a 105 5 = a 146 68 from by omega)
theorem lw_op991 (E : jxE) (d : Nat) (hd : Nat.ble 60 (d + 1) = true) (hL : E.1 ≤ 3072) (y3 : Int) (hy0 : 0 ≤ y3) (hy1 : y3 + 6 ≤ E.1) (hnext : ∀ (a b : Nat → Nat → Int) (hv : iv a) (hg0 : WFW a) (hg1 : SV a) (hg2 : OC a) (hg3 : FO a) (hg4 : FW a) (hg5 : TAPE a) (hr0 : a 4 6 = a 146 2) (hr1 : a 2 1 = a 146 22) (hr2 : a 105 5 = a 146 68), jt (jxX E d 305 1189 [some (.inr (.inr (.inl 3000))), some (.inr (.inr (.inl 0))), some (.inr (.inr (.inl 146))), some (.inl y3)] [] (jxSH, a, b)) (fun v _ _ => v = [.inl 1])) (a b : Nat → Nat → Int) (hv : iv a) (hg0 : WFW a) (hg1 : SV a) (hg2 : OC a) (hg3 : FO a) (hg4 : FW a) (hg5 : TAPE a) (hr0 : a 4 6 = a 146 2) (hr1 : a 2 1 = a 146 22) (hr2 : a 105 5 = a 146 68) : jt (jxX E d 305 991 [some (.inr (.inr (.inl 3000))), some (.inr (.inr (.inl 0))), some (.inr (.inr (.inl 146))), some (.inl y3)] [] (jxSH, a, b)) (fun v _ _ => v = [.inl 1]) := by
  refine jt_eq (bq_law_991 E d y3 a b) ?_
  have h801_ := iv_get hv (k := 4) (j := 6) (l := 0) (u := 40) rfl
  have h802_ := iv_get hv (k := 146) (j := 2) (l := 0) (u := 40) rfl
  have h803_ := iv_get hv (k := 2) (j := 1) (l := 0) (u := 200) rfl
  have h804_ := iv_get hv (k := 146) (j := 22) (l := 0) (u := 200) rfl
  have h805_ := iv_get hv (k := 105) (j := 5) (l := 0) (u := 10) rfl
  have h806_ := iv_get hv (k := 146) (j := 68) (l := 0) (u := 10) rfl
  refine jt_bif (Nat.ble_eq_true_of_le (by omega)) ?_
  have h807_ : jxw (y3 + 1) = y3 + 1 := jxw_id (by omega) (by omega)
  refine jt_grd (by omega) ?_
  refine jt_bI (sp_X11_rates E d (jd_le hd rfl) (E.2 ((jxw (y3 + 1)).toNat)) a b hv) (fun r808_ a808_ b808_ h808_ => ?_)
  obtain ⟨hv808_, hf808_, rfl, hq808_0, hq808_1, hq808_2, hq808_3, hq808_4⟩ := h808_
  have h809_ := iv_get hv808_ (k := 2) (j := 1) (l := 0) (u := 200) rfl
  have h810_ := iv_get hv808_ (k := 105) (j := 5) (l := 0) (u := 10) rfl
  refine jt_eq (bq_law_1001 E d y3 a808_ b) ?_
  refine jt_bif (Nat.ble_eq_true_of_le (by omega)) ?_
  refine jt_grd (by omega) ?_
  refine jt_bI (sp_X12_rates E d (jd_le hd rfl) (E.2 ((jxw (y3 + 1)).toNat)) a808_ b hv808_) (fun r811_ a811_ b811_ h811_ => ?_)
  obtain ⟨hv811_, hf811_, rfl, hq811_0, hq811_1, hq811_2, hq811_3, hq811_4, hq811_5⟩ := h811_
  have h812_ := iv_get hv808_ (k := 146) (j := 22) (l := 0) (u := 200) rfl
  have h813_ : a808_ 146 22 = a 146 22 := hf808_ 146 22 rfl
  have h814_ := iv_get hv808_ (k := 146) (j := 68) (l := 0) (u := 10) rfl
  have h815_ : a808_ 146 68 = a 146 68 := hf808_ 146 68 rfl
  have h816_ := iv_get hv811_ (k := 146) (j := 68) (l := 0) (u := 10) rfl
  have h817_ := iv_get hv811_ (k := 146) (j := 22) (l := 0) (u := 200) rfl
  have hfin811 := RATE_fin hg5 hr1 hr2 hq808_1 hq808_2 hq808_3 hq811_1 hq811_4 hq811_5 (fun j => hf808_ 164 j rfl) (hf808_ 146 22 rfl) (hf808_ 146 68 rfl) (hf811_ 2 1 rfl) (hf811_ 105 5 rfl)
  clear hq808_0 hq808_1 hq808_2 hq808_3 hq811_0 hq811_1 hq811_2 hq811_3 hq811_4 hq811_5
  have h818_ := iv_get hv811_ (k := 4) (j := 6) (l := 0) (u := 40) rfl
  have h819_ : a811_ 4 6 = a808_ 4 6 := hf811_ 4 6 rfl
  have h820_ := iv_get hv808_ (k := 4) (j := 6) (l := 0) (u := 40) rfl
  have h821_ : a808_ 4 6 = a 4 6 := hf808_ 4 6 rfl
  have h822_ := iv_get hv811_ (k := 146) (j := 2) (l := 0) (u := 40) rfl
  have h823_ : a811_ 146 2 = a808_ 146 2 := hf811_ 146 2 rfl
  have h824_ := iv_get hv808_ (k := 146) (j := 2) (l := 0) (u := 40) rfl
  have h825_ : a808_ 146 2 = a 146 2 := hf808_ 146 2 rfl
  have h826_ := iv_get hv811_ (k := 2) (j := 1) (l := 0) (u := 200) rfl
  have h827_ : a811_ 2 1 = a808_ 2 1 := hf811_ 2 1 rfl
  have h828_ := iv_get hv811_ (k := 105) (j := 5) (l := 0) (u := 10) rfl
  have h829_ : a811_ 105 5 = a808_ 105 5 := hf811_ 105 5 rfl
  exact hnext a811_ b hv811_ (WFW_fr (WFW_fr hg0 hf808_ (fun _ => rfl) (fun _ => rfl)) hf811_ (fun _ => rfl) (fun _ => rfl)) (SV_fr (SV_fr hg1 hf808_ (fun _ => rfl) (fun _ => rfl)) hf811_ (fun _ => rfl) (fun _ => rfl)) (OC_fr (OC_fr hg2 hf808_ rfl rfl (fun _ => rfl) (fun _ => rfl) (fun _ => rfl) (fun _ => rfl) (fun _ => rfl)) hf811_ rfl rfl (fun _ => rfl) (fun _ => rfl) (fun _ => rfl) (fun _ => rfl) (fun _ => rfl)) (FO_fr (FO_fr hg3 hf808_ rfl rfl (fun _ => rfl)) hf811_ rfl rfl (fun _ => rfl)) (FW_fr (FW_fr hg4 hf808_ rfl (fun _ => rfl)) hf811_ rfl (fun _ => rfl)) (TAPE_fr (TAPE_fr hg5 hf808_ (fun _ => rfl) (fun _ => rfl)) hf811_ (fun _ => rfl) (fun _ => rfl)) (show a811_ 4 6 = a811_ 146 2 from by omega) (show a811_ 2 1 = a811_ 146 22 from by omega) (show a811_ 105 5 = a811_ 146 68 from by omega)
theorem lw_op1014 (E : jxE) (d : Nat) (hd : Nat.ble 60 (d + 1) = true) (hL : E.1 ≤ 3072) (y3 : Int) (hy0 : 0 ≤ y3) (hy1 : y3 + 6 ≤ E.1) (hnext : ∀ (a b : Nat → Nat → Int) (hv : iv a) (hg0 : WFW a) (hg1 : SV a) (hg2 : OC a) (hg3 : FO a) (hg4 : FW a) (hg5 : TAPE a) (hr0 : a 4 6 = a 146 2) (hr1 : a 2 1 = a 146 22) (hr2 : a 105 5 = a 146 68), jt (jxX E d 305 1189 [some (.inr (.inr (.inl 3000))), some (.inr (.inr (.inl 0))), some (.inr (.inr (.inl 146))), some (.inl y3)] [] (jxSH, a, b)) (fun v _ _ => v = [.inl 1])) (a b : Nat → Nat → Int) (hv : iv a) (hg0 : WFW a) (hg1 : SV a) (hg2 : OC a) (hg3 : FO a) (hg4 : FW a) (hg5 : TAPE a) (hr0 : a 4 6 = a 146 2) (hr1 : a 2 1 = a 146 22) (hr2 : a 105 5 = a 146 68) : jt (jxX E d 305 1014 [some (.inr (.inr (.inl 3000))), some (.inr (.inr (.inl 0))), some (.inr (.inr (.inl 146))), some (.inl y3)] [] (jxSH, a, b)) (fun v _ _ => v = [.inl 1]) := by
  refine jt_eq (bq_law_1014 E d y3 a b) ?_
  have h830_ := iv_get hv (k := 4) (j := 6) (l := 0) (u := 40) rfl
  have h831_ := iv_get hv (k := 146) (j := 2) (l := 0) (u := 40) rfl
  have h832_ := iv_get hv (k := 2) (j := 1) (l := 0) (u := 200) rfl
  have h833_ := iv_get hv (k := 146) (j := 22) (l := 0) (u := 200) rfl
  have h834_ := iv_get hv (k := 105) (j := 5) (l := 0) (u := 10) rfl
  have h835_ := iv_get hv (k := 146) (j := 68) (l := 0) (u := 10) rfl
  refine jt_bif (Nat.ble_eq_true_of_le (by omega)) ?_
  have h836_ : jxw (y3 + 1) = y3 + 1 := jxw_id (by omega) (by omega)
  refine jt_grd (by omega) ?_
  refine jt_bif (Nat.ble_eq_true_of_le (by omega)) ?_
  have h837_ : jxw (y3 + 2) = y3 + 2 := jxw_id (by omega) (by omega)
  refine jt_grd (by omega) ?_
  refine jt_bif (Nat.ble_eq_true_of_le (by omega)) ?_
  have h838_ : jxw (y3 + 3) = y3 + 3 := jxw_id (by omega) (by omega)
  refine jt_grd (by omega) ?_
  refine jt_bif (Nat.ble_eq_true_of_le (by omega)) ?_
  have h839_ : jxw (y3 + 4) = y3 + 4 := jxw_id (by omega) (by omega)
  refine jt_grd (by omega) ?_
  refine jt_bI (sp_X11_price E d (jd_le hd rfl) (E.2 ((jxw (y3 + 1)).toNat)) (E.2 ((jxw (y3 + 2)).toNat)) (E.2 ((jxw (y3 + 3)).toNat)) (E.2 ((jxw (y3 + 4)).toNat)) a b hv) (fun r840_ a840_ b840_ h840_ => ?_)
  obtain ⟨rfl, rfl, hq840_0, hq840_1, hq840_2⟩ := h840_
  refine jt_eq (bq_law_1039 E d y3 a b) ?_
  refine jt_bif (Nat.ble_eq_true_of_le (by omega)) ?_
  refine jt_grd (by omega) ?_
  refine jt_bif (Nat.ble_eq_true_of_le (by omega)) ?_
  refine jt_grd (by omega) ?_
  refine jt_bif (Nat.ble_eq_true_of_le (by omega)) ?_
  refine jt_grd (by omega) ?_
  refine jt_bif (Nat.ble_eq_true_of_le (by omega)) ?_
  refine jt_grd (by omega) ?_
  refine jt_bI (sp_X12_price E d (jd_le hd rfl) (E.2 ((jxw (y3 + 1)).toNat)) (E.2 ((jxw (y3 + 2)).toNat)) (E.2 ((jxw (y3 + 3)).toNat)) (E.2 ((jxw (y3 + 4)).toNat)) a b hv) (fun r841_ a841_ b841_ h841_ => ?_)
  obtain ⟨rfl, rfl, hq841_0, hq841_1, hq841_2⟩ := h841_
  refine jt_eq (bq_law_1064 E d y3 a b) ?_
  exact hnext a b hv hg0 hg1 hg2 hg3 hg4 hg5 (show a 4 6 = a 146 2 from by omega) (show a 2 1 = a 146 22 from by omega) (show a 105 5 = a 146 68 from by omega)
theorem lw_op1067 (E : jxE) (d : Nat) (hd : Nat.ble 60 (d + 1) = true) (hL : E.1 ≤ 3072) (y3 : Int) (hy0 : 0 ≤ y3) (hy1 : y3 + 6 ≤ E.1) (hnext : ∀ (a b : Nat → Nat → Int) (hv : iv a) (hg0 : WFW a) (hg1 : SV a) (hg2 : OC a) (hg3 : FO a) (hg4 : FW a) (hg5 : TAPE a) (hr0 : a 4 6 = a 146 2) (hr1 : a 2 1 = a 146 22) (hr2 : a 105 5 = a 146 68), jt (jxX E d 305 1189 [some (.inr (.inr (.inl 3000))), some (.inr (.inr (.inl 0))), some (.inr (.inr (.inl 146))), some (.inl y3)] [] (jxSH, a, b)) (fun v _ _ => v = [.inl 1])) (a b : Nat → Nat → Int) (hv : iv a) (hg0 : WFW a) (hg1 : SV a) (hg2 : OC a) (hg3 : FO a) (hg4 : FW a) (hg5 : TAPE a) (hr0 : a 4 6 = a 146 2) (hr1 : a 2 1 = a 146 22) (hr2 : a 105 5 = a 146 68) : jt (jxX E d 305 1067 [some (.inr (.inr (.inl 3000))), some (.inr (.inr (.inl 0))), some (.inr (.inr (.inl 146))), some (.inl y3)] [] (jxSH, a, b)) (fun v _ _ => v = [.inl 1]) := by
  refine jt_eq (bq_law_1067 E d y3 a b) ?_
  have h842_ := iv_get hv (k := 4) (j := 6) (l := 0) (u := 40) rfl
  have h843_ := iv_get hv (k := 146) (j := 2) (l := 0) (u := 40) rfl
  have h844_ := iv_get hv (k := 2) (j := 1) (l := 0) (u := 200) rfl
  have h845_ := iv_get hv (k := 146) (j := 22) (l := 0) (u := 200) rfl
  have h846_ := iv_get hv (k := 105) (j := 5) (l := 0) (u := 10) rfl
  have h847_ := iv_get hv (k := 146) (j := 68) (l := 0) (u := 10) rfl
  refine jt_bif (Nat.ble_eq_true_of_le (by omega)) ?_
  have h848_ : jxw (y3 + 1) = y3 + 1 := jxw_id (by omega) (by omega)
  refine jt_grd (by omega) ?_
  refine jt_bif (Nat.ble_eq_true_of_le (by omega)) ?_
  have h849_ : jxw (y3 + 2) = y3 + 2 := jxw_id (by omega) (by omega)
  refine jt_grd (by omega) ?_
  refine jt_bif (Nat.ble_eq_true_of_le (by omega)) ?_
  have h850_ : jxw (y3 + 3) = y3 + 3 := jxw_id (by omega) (by omega)
  refine jt_grd (by omega) ?_
  refine jt_bI (sp_X11_stamps E d (jd_le hd rfl) (E.2 ((jxw (y3 + 1)).toNat)) (E.2 ((jxw (y3 + 2)).toNat)) (E.2 ((jxw (y3 + 3)).toNat)) a b hv) (fun r851_ a851_ b851_ h851_ => ?_)
  obtain ⟨hv851_, hf851_, rfl, hq851_0, hq851_1⟩ := h851_
  refine jt_eq (bq_law_1087 E d y3 a851_ b) ?_
  refine jt_bif (Nat.ble_eq_true_of_le (by omega)) ?_
  refine jt_grd (by omega) ?_
  refine jt_bif (Nat.ble_eq_true_of_le (by omega)) ?_
  refine jt_grd (by omega) ?_
  refine jt_bif (Nat.ble_eq_true_of_le (by omega)) ?_
  refine jt_grd (by omega) ?_
  refine jt_bI (sp_X12_stamps E d (jd_le hd rfl) (E.2 ((jxw (y3 + 1)).toNat)) (E.2 ((jxw (y3 + 2)).toNat)) (E.2 ((jxw (y3 + 3)).toNat)) a851_ b hv851_ (SV_fr hg1 hf851_ (fun _ => rfl) (fun _ => rfl))) (fun r852_ a852_ b852_ h852_ => ?_)
  obtain ⟨hv852_, hf852_, rfl, hq852_0, hq852_1, hq852_2⟩ := h852_
  refine jt_eq (bq_law_1107 E d y3 a852_ b) ?_
  have h853_ := iv_get hv852_ (k := 4) (j := 6) (l := 0) (u := 40) rfl
  have h854_ : a852_ 4 6 = a851_ 4 6 := hf852_ 4 6 rfl
  have h855_ := iv_get hv851_ (k := 4) (j := 6) (l := 0) (u := 40) rfl
  have h856_ : a851_ 4 6 = a 4 6 := hf851_ 4 6 rfl
  have h857_ := iv_get hv852_ (k := 146) (j := 2) (l := 0) (u := 40) rfl
  have h858_ : a852_ 146 2 = a851_ 146 2 := hf852_ 146 2 rfl
  have h859_ := iv_get hv851_ (k := 146) (j := 2) (l := 0) (u := 40) rfl
  have h860_ : a851_ 146 2 = a 146 2 := hf851_ 146 2 rfl
  have h861_ := iv_get hv852_ (k := 2) (j := 1) (l := 0) (u := 200) rfl
  have h862_ : a852_ 2 1 = a851_ 2 1 := hf852_ 2 1 rfl
  have h863_ := iv_get hv851_ (k := 2) (j := 1) (l := 0) (u := 200) rfl
  have h864_ : a851_ 2 1 = a 2 1 := hf851_ 2 1 rfl
  have h865_ := iv_get hv852_ (k := 146) (j := 22) (l := 0) (u := 200) rfl
  have h866_ : a852_ 146 22 = a851_ 146 22 := hf852_ 146 22 rfl
  have h867_ := iv_get hv851_ (k := 146) (j := 22) (l := 0) (u := 200) rfl
  have h868_ : a851_ 146 22 = a 146 22 := hf851_ 146 22 rfl
  have h869_ := iv_get hv852_ (k := 105) (j := 5) (l := 0) (u := 10) rfl
  have h870_ : a852_ 105 5 = a851_ 105 5 := hf852_ 105 5 rfl
  have h871_ := iv_get hv851_ (k := 105) (j := 5) (l := 0) (u := 10) rfl
  have h872_ : a851_ 105 5 = a 105 5 := hf851_ 105 5 rfl
  have h873_ := iv_get hv852_ (k := 146) (j := 68) (l := 0) (u := 10) rfl
  have h874_ : a852_ 146 68 = a851_ 146 68 := hf852_ 146 68 rfl
  have h875_ := iv_get hv851_ (k := 146) (j := 68) (l := 0) (u := 10) rfl
  have h876_ : a851_ 146 68 = a 146 68 := hf851_ 146 68 rfl
  exact hnext a852_ b hv852_ (WFW_fr (WFW_fr hg0 hf851_ (fun _ => rfl) (fun _ => rfl)) hf852_ (fun _ => rfl) (fun _ => rfl)) hq852_1 (OC_fr (OC_fr hg2 hf851_ rfl rfl (fun _ => rfl) (fun _ => rfl) (fun _ => rfl) (fun _ => rfl) (fun _ => rfl)) hf852_ rfl rfl (fun _ => rfl) (fun _ => rfl) (fun _ => rfl) (fun _ => rfl) (fun _ => rfl)) (FO_fr (FO_fr hg3 hf851_ rfl rfl (fun _ => rfl)) hf852_ rfl rfl (fun _ => rfl)) (FW_fr (FW_fr hg4 hf851_ rfl (fun _ => rfl)) hf852_ rfl (fun _ => rfl)) (TAPE_fr (TAPE_fr hg5 hf851_ (fun _ => rfl) (fun _ => rfl)) hf852_ (fun _ => rfl) (fun _ => rfl)) (show a852_ 4 6 = a852_ 146 2 from by omega) (show a852_ 2 1 = a852_ 146 22 from by omega) (show a852_ 105 5 = a852_ 146 68 from by omega)
theorem lw_op1110 (E : jxE) (d : Nat) (hd : Nat.ble 60 (d + 1) = true) (hL : E.1 ≤ 3072) (y3 : Int) (hy0 : 0 ≤ y3) (hy1 : y3 + 6 ≤ E.1) (hnext : ∀ (a b : Nat → Nat → Int) (hv : iv a) (hg0 : WFW a) (hg1 : SV a) (hg2 : OC a) (hg3 : FO a) (hg4 : FW a) (hg5 : TAPE a) (hr0 : a 4 6 = a 146 2) (hr1 : a 2 1 = a 146 22) (hr2 : a 105 5 = a 146 68), jt (jxX E d 305 1189 [some (.inr (.inr (.inl 3000))), some (.inr (.inr (.inl 0))), some (.inr (.inr (.inl 146))), some (.inl y3)] [] (jxSH, a, b)) (fun v _ _ => v = [.inl 1])) (a b : Nat → Nat → Int) (hv : iv a) (hg0 : WFW a) (hg1 : SV a) (hg2 : OC a) (hg3 : FO a) (hg4 : FW a) (hg5 : TAPE a) (hr0 : a 4 6 = a 146 2) (hr1 : a 2 1 = a 146 22) (hr2 : a 105 5 = a 146 68) : jt (jxX E d 305 1110 [some (.inr (.inr (.inl 3000))), some (.inr (.inr (.inl 0))), some (.inr (.inr (.inl 146))), some (.inl y3)] [] (jxSH, a, b)) (fun v _ _ => v = [.inl 1]) := by
  refine jt_eq (bq_law_1110 E d y3 a b) ?_
  have h877_ := iv_get hv (k := 4) (j := 6) (l := 0) (u := 40) rfl
  have h878_ := iv_get hv (k := 146) (j := 2) (l := 0) (u := 40) rfl
  have h879_ := iv_get hv (k := 2) (j := 1) (l := 0) (u := 200) rfl
  have h880_ := iv_get hv (k := 146) (j := 22) (l := 0) (u := 200) rfl
  have h881_ := iv_get hv (k := 105) (j := 5) (l := 0) (u := 10) rfl
  have h882_ := iv_get hv (k := 146) (j := 68) (l := 0) (u := 10) rfl
  refine jt_bif (Nat.ble_eq_true_of_le (by omega)) ?_
  have h883_ : jxw (y3 + 1) = y3 + 1 := jxw_id (by omega) (by omega)
  refine jt_grd (by omega) ?_
  refine jt_bif (Nat.ble_eq_true_of_le (by omega)) ?_
  have h884_ : jxw (y3 + 2) = y3 + 2 := jxw_id (by omega) (by omega)
  refine jt_grd (by omega) ?_
  refine jt_bI (sp_X11_pay E d (jd_le hd rfl) (E.2 ((jxw (y3 + 1)).toNat)) (E.2 ((jxw (y3 + 2)).toNat)) a b hv) (fun r885_ a885_ b885_ h885_ => ?_)
  obtain ⟨hv885_, hf885_, hq885_0⟩ := h885_
  have h886_ := iv_get hv (k := 58) (j := 8) (l := 0) (u := 300) rfl
  refine jt_eq (bq_law_1125 E d y3 a885_ b885_) ?_
  refine jt_bif (Nat.ble_eq_true_of_le (by omega)) ?_
  refine jt_grd (by omega) ?_
  refine jt_bif (Nat.ble_eq_true_of_le (by omega)) ?_
  refine jt_grd (by omega) ?_
  refine jt_bI (sp_X12_pay E d (jd_le hd rfl) (E.2 ((jxw (y3 + 1)).toNat)) (E.2 ((jxw (y3 + 2)).toNat)) a885_ b885_ hv885_ (SV_fr hg1 hf885_ (fun _ => rfl) (fun _ => rfl))) (fun r887_ a887_ b887_ h887_ => ?_)
  obtain ⟨hv887_, hf887_, rfl, hq887_0, hq887_1⟩ := h887_
  have h888_ := iv_get hv885_ (k := 146) (j := 9) (l := 0) (u := 300) rfl
  have h889_ : a885_ 146 9 = a 146 9 := hf885_ 146 9 rfl
  have h890_ := iv_get hv (k := 146) (j := 9) (l := 0) (u := 300) rfl
  have h891_ := iv_get hv887_ (k := 4) (j := 6) (l := 0) (u := 40) rfl
  have h892_ : a887_ 4 6 = a885_ 4 6 := hf887_ 4 6 rfl
  have h893_ := iv_get hv885_ (k := 4) (j := 6) (l := 0) (u := 40) rfl
  have h894_ : a885_ 4 6 = a 4 6 := hf885_ 4 6 rfl
  have h895_ := iv_get hv887_ (k := 146) (j := 2) (l := 0) (u := 40) rfl
  have h896_ : a887_ 146 2 = a885_ 146 2 := hf887_ 146 2 rfl
  have h897_ := iv_get hv885_ (k := 146) (j := 2) (l := 0) (u := 40) rfl
  have h898_ : a885_ 146 2 = a 146 2 := hf885_ 146 2 rfl
  have h899_ := iv_get hv887_ (k := 2) (j := 1) (l := 0) (u := 200) rfl
  have h900_ : a887_ 2 1 = a885_ 2 1 := hf887_ 2 1 rfl
  have h901_ := iv_get hv885_ (k := 2) (j := 1) (l := 0) (u := 200) rfl
  have h902_ : a885_ 2 1 = a 2 1 := hf885_ 2 1 rfl
  have h903_ := iv_get hv887_ (k := 146) (j := 22) (l := 0) (u := 200) rfl
  have h904_ : a887_ 146 22 = a885_ 146 22 := hf887_ 146 22 rfl
  have h905_ := iv_get hv885_ (k := 146) (j := 22) (l := 0) (u := 200) rfl
  have h906_ : a885_ 146 22 = a 146 22 := hf885_ 146 22 rfl
  have h907_ := iv_get hv887_ (k := 105) (j := 5) (l := 0) (u := 10) rfl
  have h908_ : a887_ 105 5 = a885_ 105 5 := hf887_ 105 5 rfl
  have h909_ := iv_get hv885_ (k := 105) (j := 5) (l := 0) (u := 10) rfl
  have h910_ : a885_ 105 5 = a 105 5 := hf885_ 105 5 rfl
  have h911_ := iv_get hv887_ (k := 146) (j := 68) (l := 0) (u := 10) rfl
  have h912_ : a887_ 146 68 = a885_ 146 68 := hf887_ 146 68 rfl
  have h913_ := iv_get hv885_ (k := 146) (j := 68) (l := 0) (u := 10) rfl
  have h914_ : a885_ 146 68 = a 146 68 := hf885_ 146 68 rfl
  exact hnext a887_ b885_ hv887_ (WFW_fr (WFW_fr hg0 hf885_ (fun _ => rfl) (fun _ => rfl)) hf887_ (fun _ => rfl) (fun _ => rfl)) hq887_0 (OC_fr (OC_fr hg2 hf885_ rfl rfl (fun _ => rfl) (fun _ => rfl) (fun _ => rfl) (fun _ => rfl) (fun _ => rfl)) hf887_ rfl rfl (fun _ => rfl) (fun _ => rfl) (fun _ => rfl) (fun _ => rfl) (fun _ => rfl)) (FO_fr (FO_fr hg3 hf885_ rfl rfl (fun _ => rfl)) hf887_ rfl rfl (fun _ => rfl)) (FW_fr (FW_fr hg4 hf885_ rfl (fun _ => rfl)) hf887_ rfl (fun _ => rfl)) (TAPE_fr (TAPE_fr hg5 hf885_ (fun _ => rfl) (fun _ => rfl)) hf887_ (fun _ => rfl) (fun _ => rfl)) (show a887_ 4 6 = a887_ 146 2 from by omega) (show a887_ 2 1 = a887_ 146 22 from by omega) (show a887_ 105 5 = a887_ 146 68 from by omega)
theorem lw_op1143 (E : jxE) (d : Nat) (hd : Nat.ble 60 (d + 1) = true) (hL : E.1 ≤ 3072) (y3 : Int) (hy0 : 0 ≤ y3) (hy1 : y3 + 6 ≤ E.1) (hnext : ∀ (a b : Nat → Nat → Int) (hv : iv a) (hg0 : WFW a) (hg1 : SV a) (hg2 : OC a) (hg3 : FO a) (hg4 : FW a) (hg5 : TAPE a) (hr0 : a 4 6 = a 146 2) (hr1 : a 2 1 = a 146 22) (hr2 : a 105 5 = a 146 68), jt (jxX E d 305 1189 [some (.inr (.inr (.inl 3000))), some (.inr (.inr (.inl 0))), some (.inr (.inr (.inl 146))), some (.inl y3)] [] (jxSH, a, b)) (fun v _ _ => v = [.inl 1])) (a b : Nat → Nat → Int) (hv : iv a) (hg0 : WFW a) (hg1 : SV a) (hg2 : OC a) (hg3 : FO a) (hg4 : FW a) (hg5 : TAPE a) (hr0 : a 4 6 = a 146 2) (hr1 : a 2 1 = a 146 22) (hr2 : a 105 5 = a 146 68) : jt (jxX E d 305 1143 [some (.inr (.inr (.inl 3000))), some (.inr (.inr (.inl 0))), some (.inr (.inr (.inl 146))), some (.inl y3)] [] (jxSH, a, b)) (fun v _ _ => v = [.inl 1]) := by
  refine jt_eq (bq_law_1143 E d y3 a b) ?_
  have h915_ := iv_get hv (k := 4) (j := 6) (l := 0) (u := 40) rfl
  have h916_ := iv_get hv (k := 146) (j := 2) (l := 0) (u := 40) rfl
  have h917_ := iv_get hv (k := 2) (j := 1) (l := 0) (u := 200) rfl
  have h918_ := iv_get hv (k := 146) (j := 22) (l := 0) (u := 200) rfl
  have h919_ := iv_get hv (k := 105) (j := 5) (l := 0) (u := 10) rfl
  have h920_ := iv_get hv (k := 146) (j := 68) (l := 0) (u := 10) rfl
  refine jt_bif (Nat.ble_eq_true_of_le (by omega)) ?_
  have h921_ : jxw (y3 + 1) = y3 + 1 := jxw_id (by omega) (by omega)
  refine jt_grd (by omega) ?_
  refine jt_eI (eq_X11_paid E d (jd_le hd rfl) (E.2 ((jxw (y3 + 1)).toNat)) a b) ?_
  refine jt_eq (bq_law_1153 E d y3 a b) ?_
  refine jt_bif (Nat.ble_eq_true_of_le (by omega)) ?_
  refine jt_grd (by omega) ?_
  refine jt_eI (eq_X12_paid E d (jd_le hd rfl) (E.2 ((jxw (y3 + 1)).toNat)) a b) ?_
  exact hnext a b hv hg0 hg1 hg2 hg3 hg4 hg5 (show a 4 6 = a 146 2 from by omega) (show a 2 1 = a 146 22 from by omega) (show a 105 5 = a 146 68 from by omega)
theorem lw_op1166 (E : jxE) (d : Nat) (hd : Nat.ble 60 (d + 1) = true) (hL : E.1 ≤ 3072) (y3 : Int) (hy0 : 0 ≤ y3) (hy1 : y3 + 6 ≤ E.1) (hnext : ∀ (a b : Nat → Nat → Int) (hv : iv a) (hg0 : WFW a) (hg1 : SV a) (hg2 : OC a) (hg3 : FO a) (hg4 : FW a) (hg5 : TAPE a) (hr0 : a 4 6 = a 146 2) (hr1 : a 2 1 = a 146 22) (hr2 : a 105 5 = a 146 68), jt (jxX E d 305 1189 [some (.inr (.inr (.inl 3000))), some (.inr (.inr (.inl 0))), some (.inr (.inr (.inl 146))), some (.inl y3)] [] (jxSH, a, b)) (fun v _ _ => v = [.inl 1])) (a b : Nat → Nat → Int) (hv : iv a) (hg0 : WFW a) (hg1 : SV a) (hg2 : OC a) (hg3 : FO a) (hg4 : FW a) (hg5 : TAPE a) (hr0 : a 4 6 = a 146 2) (hr1 : a 2 1 = a 146 22) (hr2 : a 105 5 = a 146 68) : jt (jxX E d 305 1166 [some (.inr (.inr (.inl 3000))), some (.inr (.inr (.inl 0))), some (.inr (.inr (.inl 146))), some (.inl y3)] [] (jxSH, a, b)) (fun v _ _ => v = [.inl 1]) := by
  refine jt_eq (bq_law_1166 E d y3 a b) ?_
  have h922_ := iv_get hv (k := 4) (j := 6) (l := 0) (u := 40) rfl
  have h923_ := iv_get hv (k := 146) (j := 2) (l := 0) (u := 40) rfl
  have h924_ := iv_get hv (k := 2) (j := 1) (l := 0) (u := 200) rfl
  have h925_ := iv_get hv (k := 146) (j := 22) (l := 0) (u := 200) rfl
  have h926_ := iv_get hv (k := 105) (j := 5) (l := 0) (u := 10) rfl
  have h927_ := iv_get hv (k := 146) (j := 68) (l := 0) (u := 10) rfl
  refine jt_bif (Nat.ble_eq_true_of_le (by omega)) ?_
  have h928_ : jxw (y3 + 1) = y3 + 1 := jxw_id (by omega) (by omega)
  refine jt_grd (by omega) ?_
  refine jt_bI (sp_X11_count E d (jd_le hd rfl) (E.2 ((jxw (y3 + 1)).toNat)) a b hv) (fun r929_ a929_ b929_ h929_ => ?_)
  obtain ⟨rfl, rfl, hq929_0, hq929_1, hq929_2, hq929_3, hq929_4, hq929_5, hq929_6, hq929_7, hq929_8, hq929_9, hq929_10, hq929_11, hq929_12, hq929_13, hq929_14, hq929_15, hq929_16, hq929_17⟩ := h929_
  have h930_ := iv_get hv (k := 0) (j := 0) (l := 0) (u := 1999) rfl
  have h931_ := iv_get hv (k := 58) (j := 8) (l := 0) (u := 300) rfl
  have h932_ := iv_get hv (k := 58) (j := 12) (l := 0) (u := 600) rfl
  have h933_ := iv_get hv (k := 83) (j := 6) (l := 0) (u := 20) rfl
  have h934_ := iv_get hv (k := 0) (j := 9) (l := 0) (u := 8) rfl
  refine jt_eq (bq_law_1176 E d y3 a b) ?_
  refine jt_bif (Nat.ble_eq_true_of_le (by omega)) ?_
  refine jt_grd (by omega) ?_
  refine jt_bI (sp_X12_count E d (jd_le hd rfl) (E.2 ((jxw (y3 + 1)).toNat)) a b hv) (fun r935_ a935_ b935_ h935_ => ?_)
  obtain ⟨rfl, rfl, hq935_0, hq935_1, hq935_2, hq935_3, hq935_4, hq935_5, hq935_6, hq935_7, hq935_8, hq935_9, hq935_10, hq935_11, hq935_12, hq935_13⟩ := h935_
  have h936_ := iv_get hv (k := 146) (j := 0) (l := 0) (u := 1999) rfl
  have h937_ := iv_get hv (k := 146) (j := 9) (l := 0) (u := 300) rfl
  have h938_ := iv_get hv (k := 146) (j := 17) (l := 0) (u := 600) rfl
  have h939_ := iv_get hv (k := 146) (j := 49) (l := 0) (u := 20) rfl
  have h940_ := iv_get hv (k := 146) (j := 42) (l := 0) (u := 8) rfl
  exact hnext a b hv hg0 hg1 hg2 hg3 hg4 hg5 (show a 4 6 = a 146 2 from by omega) (show a 2 1 = a 146 22 from by omega) (show a 105 5 = a 146 68 from by omega)
theorem lw_18 (E : jxE) (d : Nat) (hd : Nat.ble 60 (d + 1) = true) (hL : E.1 ≤ 3072) : ∀ n : Nat, ∀ (y3 : Int) (a b : Nat → Nat → Int), ((E.1 : Int) - y3).toNat ≤ n → 0 ≤ y3 → y3 ≤ 3078 → iv a → WFW a → SV a → OC a → FO a → FW a → TAPE a → a 4 6 = a 146 2 → a 2 1 = a 146 22 → a 105 5 = a 146 68 → jt (jxX E d 305 18 [some (.inr (.inr (.inl 3000))), some (.inr (.inr (.inl 0))), some (.inr (.inr (.inl 146))), some (.inl y3)] [] (jxSH, a, b)) (fun v _ _ => v = [.inl 1]) := by
  refine jx_ind fun n ih => ?_
  intro y3 a b hm hy0 hy9 hv hg0 hg1 hg2 hg3 hg4 hg5 hr0 hr1 hr2
  refine jt_eq (bq_law_18 E d y3 a b) ?_
  have hnext0 : y3 + 6 ≤ E.1 → ∀ (a b : Nat → Nat → Int) (hv : iv a) (hg0 : WFW a) (hg1 : SV a) (hg2 : OC a) (hg3 : FO a) (hg4 : FW a) (hg5 : TAPE a) (hr0 : a 4 6 = a 146 2) (hr1 : a 2 1 = a 146 22) (hr2 : a 105 5 = a 146 68), jt (jxX E d 305 1189 [some (.inr (.inr (.inl 3000))), some (.inr (.inr (.inl 0))), some (.inr (.inr (.inl 146))), some (.inl y3)] [] (jxSH, a, b)) (fun v _ _ => v = [.inl 1]) := fun hlt a b hv hg0 hg1 hg2 hg3 hg4 hg5 hr0 hr1 hr2 => by
    refine jt_eq (bq_law_1189 E d y3 a b) ?_
    have e : jxw (y3 + 6) = y3 + 6 := jxw_id (by omega) (by omega)
    rw [e]
    exact ih ((E.1 : Int) - (y3 + 6)).toNat (by omega) (y3 + 6) a b (Nat.le_refl _) (by omega) (by omega) hv hg0 hg1 hg2 hg3 hg4 hg5 hr0 hr1 hr2
  refine jt_bif (Nat.ble_eq_true_of_le (by omega)) ?_
  have e6 : jxw ((E.1 : Int) - 6) = (E.1 : Int) - 6 := jxw_id (by omega) (by omega)
  refine jt_ite (fun c1 => ?_) (fun c1 => ?_)
  · exact ⟨_, _, _, rfl, rfl⟩
  ·
    have hy1 : y3 + 6 ≤ E.1 := by omega
    have hnext := hnext0 hy1
    refine jt_bif (Nat.ble_eq_true_of_le (by omega)) ?_
    refine jt_grd (by omega) ?_
    have h941_ := jxand_r (E.2 (y3.toNat)) 63 (by decide) (by decide)
    refine jt_ite (fun c942_ => ?_) (fun c942_ => ?_)
    ·
      have h943_ := iv_get hv (k := 4) (j := 6) (l := 0) (u := 40) rfl
      have h944_ := iv_get hv (k := 146) (j := 2) (l := 0) (u := 40) rfl
      have h945_ := iv_get hv (k := 2) (j := 1) (l := 0) (u := 200) rfl
      have h946_ := iv_get hv (k := 146) (j := 22) (l := 0) (u := 200) rfl
      have h947_ := iv_get hv (k := 105) (j := 5) (l := 0) (u := 10) rfl
      have h948_ := iv_get hv (k := 146) (j := 68) (l := 0) (u := 10) rfl
      exact hnext a b hv hg0 hg1 hg2 hg3 hg4 hg5 (show a 4 6 = a 146 2 from by omega) (show a 2 1 = a 146 22 from by omega) (show a 105 5 = a 146 68 from by omega)
    ·
      refine jt_ite (fun c949_ => ?_) (fun c949_ => ?_)
      ·
        have h950_ := iv_get hv (k := 4) (j := 6) (l := 0) (u := 40) rfl
        have h951_ := iv_get hv (k := 146) (j := 2) (l := 0) (u := 40) rfl
        have h952_ := iv_get hv (k := 2) (j := 1) (l := 0) (u := 200) rfl
        have h953_ := iv_get hv (k := 146) (j := 22) (l := 0) (u := 200) rfl
        have h954_ := iv_get hv (k := 105) (j := 5) (l := 0) (u := 10) rfl
        have h955_ := iv_get hv (k := 146) (j := 68) (l := 0) (u := 10) rfl
        exact lw_op180 E d hd hL y3 hy0 (by omega) hnext a b hv hg0 hg1 hg2 hg3 hg4 hg5 (show a 4 6 = a 146 2 from by omega) (show a 2 1 = a 146 22 from by omega) (show a 105 5 = a 146 68 from by omega)
      ·
        refine jt_ite (fun c956_ => ?_) (fun c956_ => ?_)
        ·
          have h957_ := iv_get hv (k := 4) (j := 6) (l := 0) (u := 40) rfl
          have h958_ := iv_get hv (k := 146) (j := 2) (l := 0) (u := 40) rfl
          have h959_ := iv_get hv (k := 2) (j := 1) (l := 0) (u := 200) rfl
          have h960_ := iv_get hv (k := 146) (j := 22) (l := 0) (u := 200) rfl
          have h961_ := iv_get hv (k := 105) (j := 5) (l := 0) (u := 10) rfl
          have h962_ := iv_get hv (k := 146) (j := 68) (l := 0) (u := 10) rfl
          exact lw_op203 E d hd hL y3 hy0 (by omega) hnext a b hv hg0 hg1 hg2 hg3 hg4 hg5 (show a 4 6 = a 146 2 from by omega) (show a 2 1 = a 146 22 from by omega) (show a 105 5 = a 146 68 from by omega)
        ·
          refine jt_ite (fun c963_ => ?_) (fun c963_ => ?_)
          ·
            have h964_ := iv_get hv (k := 4) (j := 6) (l := 0) (u := 40) rfl
            have h965_ := iv_get hv (k := 146) (j := 2) (l := 0) (u := 40) rfl
            have h966_ := iv_get hv (k := 2) (j := 1) (l := 0) (u := 200) rfl
            have h967_ := iv_get hv (k := 146) (j := 22) (l := 0) (u := 200) rfl
            have h968_ := iv_get hv (k := 105) (j := 5) (l := 0) (u := 10) rfl
            have h969_ := iv_get hv (k := 146) (j := 68) (l := 0) (u := 10) rfl
            exact lw_op246 E d hd hL y3 hy0 (by omega) hnext a b hv hg0 hg1 hg2 hg3 hg4 hg5 (show a 4 6 = a 146 2 from by omega) (show a 2 1 = a 146 22 from by omega) (show a 105 5 = a 146 68 from by omega)
          ·
            refine jt_ite (fun c970_ => ?_) (fun c970_ => ?_)
            ·
              have h971_ := iv_get hv (k := 4) (j := 6) (l := 0) (u := 40) rfl
              have h972_ := iv_get hv (k := 146) (j := 2) (l := 0) (u := 40) rfl
              have h973_ := iv_get hv (k := 2) (j := 1) (l := 0) (u := 200) rfl
              have h974_ := iv_get hv (k := 146) (j := 22) (l := 0) (u := 200) rfl
              have h975_ := iv_get hv (k := 105) (j := 5) (l := 0) (u := 10) rfl
              have h976_ := iv_get hv (k := 146) (j := 68) (l := 0) (u := 10) rfl
              exact lw_op289 E d hd hL y3 hy0 (by omega) hnext a b hv hg0 hg1 hg2 hg3 hg4 hg5 (show a 4 6 = a 146 2 from by omega) (show a 2 1 = a 146 22 from by omega) (show a 105 5 = a 146 68 from by omega)
            ·
              refine jt_ite (fun c977_ => ?_) (fun c977_ => ?_)
              ·
                have h978_ := iv_get hv (k := 4) (j := 6) (l := 0) (u := 40) rfl
                have h979_ := iv_get hv (k := 146) (j := 2) (l := 0) (u := 40) rfl
                have h980_ := iv_get hv (k := 2) (j := 1) (l := 0) (u := 200) rfl
                have h981_ := iv_get hv (k := 146) (j := 22) (l := 0) (u := 200) rfl
                have h982_ := iv_get hv (k := 105) (j := 5) (l := 0) (u := 10) rfl
                have h983_ := iv_get hv (k := 146) (j := 68) (l := 0) (u := 10) rfl
                exact lw_op312 E d hd hL y3 hy0 (by omega) hnext a b hv hg0 hg1 hg2 hg3 hg4 hg5 (show a 4 6 = a 146 2 from by omega) (show a 2 1 = a 146 22 from by omega) (show a 105 5 = a 146 68 from by omega)
              ·
                refine jt_ite (fun c984_ => ?_) (fun c984_ => ?_)
                ·
                  have h985_ := iv_get hv (k := 4) (j := 6) (l := 0) (u := 40) rfl
                  have h986_ := iv_get hv (k := 146) (j := 2) (l := 0) (u := 40) rfl
                  have h987_ := iv_get hv (k := 2) (j := 1) (l := 0) (u := 200) rfl
                  have h988_ := iv_get hv (k := 146) (j := 22) (l := 0) (u := 200) rfl
                  have h989_ := iv_get hv (k := 105) (j := 5) (l := 0) (u := 10) rfl
                  have h990_ := iv_get hv (k := 146) (j := 68) (l := 0) (u := 10) rfl
                  exact lw_op375 E d hd hL y3 hy0 (by omega) hnext a b hv hg0 hg1 hg2 hg3 hg4 hg5 (show a 4 6 = a 146 2 from by omega) (show a 2 1 = a 146 22 from by omega) (show a 105 5 = a 146 68 from by omega)
                ·
                  refine jt_ite (fun c991_ => ?_) (fun c991_ => ?_)
                  ·
                    have h992_ := iv_get hv (k := 4) (j := 6) (l := 0) (u := 40) rfl
                    have h993_ := iv_get hv (k := 146) (j := 2) (l := 0) (u := 40) rfl
                    have h994_ := iv_get hv (k := 2) (j := 1) (l := 0) (u := 200) rfl
                    have h995_ := iv_get hv (k := 146) (j := 22) (l := 0) (u := 200) rfl
                    have h996_ := iv_get hv (k := 105) (j := 5) (l := 0) (u := 10) rfl
                    have h997_ := iv_get hv (k := 146) (j := 68) (l := 0) (u := 10) rfl
                    exact lw_op398 E d hd hL y3 hy0 (by omega) hnext a b hv hg0 hg1 hg2 hg3 hg4 hg5 (show a 4 6 = a 146 2 from by omega) (show a 2 1 = a 146 22 from by omega) (show a 105 5 = a 146 68 from by omega)
                  ·
                    refine jt_ite (fun c998_ => ?_) (fun c998_ => ?_)
                    ·
                      have h999_ := iv_get hv (k := 4) (j := 6) (l := 0) (u := 40) rfl
                      have h1000_ := iv_get hv (k := 146) (j := 2) (l := 0) (u := 40) rfl
                      have h1001_ := iv_get hv (k := 2) (j := 1) (l := 0) (u := 200) rfl
                      have h1002_ := iv_get hv (k := 146) (j := 22) (l := 0) (u := 200) rfl
                      have h1003_ := iv_get hv (k := 105) (j := 5) (l := 0) (u := 10) rfl
                      have h1004_ := iv_get hv (k := 146) (j := 68) (l := 0) (u := 10) rfl
                      exact lw_op421 E d hd hL y3 hy0 (by omega) hnext a b hv hg0 hg1 hg2 hg3 hg4 hg5 (show a 4 6 = a 146 2 from by omega) (show a 2 1 = a 146 22 from by omega) (show a 105 5 = a 146 68 from by omega)
                    ·
                      refine jt_ite (fun c1005_ => ?_) (fun c1005_ => ?_)
                      ·
                        have h1006_ := iv_get hv (k := 4) (j := 6) (l := 0) (u := 40) rfl
                        have h1007_ := iv_get hv (k := 146) (j := 2) (l := 0) (u := 40) rfl
                        have h1008_ := iv_get hv (k := 2) (j := 1) (l := 0) (u := 200) rfl
                        have h1009_ := iv_get hv (k := 146) (j := 22) (l := 0) (u := 200) rfl
                        have h1010_ := iv_get hv (k := 105) (j := 5) (l := 0) (u := 10) rfl
                        have h1011_ := iv_get hv (k := 146) (j := 68) (l := 0) (u := 10) rfl
                        exact lw_op454 E d hd hL y3 hy0 (by omega) hnext a b hv hg0 hg1 hg2 hg3 hg4 hg5 (show a 4 6 = a 146 2 from by omega) (show a 2 1 = a 146 22 from by omega) (show a 105 5 = a 146 68 from by omega)
                      ·
                        refine jt_ite (fun c1012_ => ?_) (fun c1012_ => ?_)
                        ·
                          have h1013_ := iv_get hv (k := 4) (j := 6) (l := 0) (u := 40) rfl
                          have h1014_ := iv_get hv (k := 146) (j := 2) (l := 0) (u := 40) rfl
                          have h1015_ := iv_get hv (k := 2) (j := 1) (l := 0) (u := 200) rfl
                          have h1016_ := iv_get hv (k := 146) (j := 22) (l := 0) (u := 200) rfl
                          have h1017_ := iv_get hv (k := 105) (j := 5) (l := 0) (u := 10) rfl
                          have h1018_ := iv_get hv (k := 146) (j := 68) (l := 0) (u := 10) rfl
                          exact lw_op467 E d hd hL y3 hy0 (by omega) hnext a b hv hg0 hg1 hg2 hg3 hg4 hg5 (show a 4 6 = a 146 2 from by omega) (show a 2 1 = a 146 22 from by omega) (show a 105 5 = a 146 68 from by omega)
                        ·
                          refine jt_ite (fun c1019_ => ?_) (fun c1019_ => ?_)
                          ·
                            have h1020_ := iv_get hv (k := 4) (j := 6) (l := 0) (u := 40) rfl
                            have h1021_ := iv_get hv (k := 146) (j := 2) (l := 0) (u := 40) rfl
                            have h1022_ := iv_get hv (k := 2) (j := 1) (l := 0) (u := 200) rfl
                            have h1023_ := iv_get hv (k := 146) (j := 22) (l := 0) (u := 200) rfl
                            have h1024_ := iv_get hv (k := 105) (j := 5) (l := 0) (u := 10) rfl
                            have h1025_ := iv_get hv (k := 146) (j := 68) (l := 0) (u := 10) rfl
                            exact lw_op490 E d hd hL y3 hy0 (by omega) hnext a b hv hg0 hg1 hg2 hg3 hg4 hg5 (show a 4 6 = a 146 2 from by omega) (show a 2 1 = a 146 22 from by omega) (show a 105 5 = a 146 68 from by omega)
                          ·
                            refine jt_ite (fun c1026_ => ?_) (fun c1026_ => ?_)
                            ·
                              have h1027_ := iv_get hv (k := 4) (j := 6) (l := 0) (u := 40) rfl
                              have h1028_ := iv_get hv (k := 146) (j := 2) (l := 0) (u := 40) rfl
                              have h1029_ := iv_get hv (k := 2) (j := 1) (l := 0) (u := 200) rfl
                              have h1030_ := iv_get hv (k := 146) (j := 22) (l := 0) (u := 200) rfl
                              have h1031_ := iv_get hv (k := 105) (j := 5) (l := 0) (u := 10) rfl
                              have h1032_ := iv_get hv (k := 146) (j := 68) (l := 0) (u := 10) rfl
                              exact lw_op523 E d hd hL y3 hy0 (by omega) hnext a b hv hg0 hg1 hg2 hg3 hg4 hg5 (show a 4 6 = a 146 2 from by omega) (show a 2 1 = a 146 22 from by omega) (show a 105 5 = a 146 68 from by omega)
                            ·
                              refine jt_ite (fun c1033_ => ?_) (fun c1033_ => ?_)
                              ·
                                have h1034_ := iv_get hv (k := 4) (j := 6) (l := 0) (u := 40) rfl
                                have h1035_ := iv_get hv (k := 146) (j := 2) (l := 0) (u := 40) rfl
                                have h1036_ := iv_get hv (k := 2) (j := 1) (l := 0) (u := 200) rfl
                                have h1037_ := iv_get hv (k := 146) (j := 22) (l := 0) (u := 200) rfl
                                have h1038_ := iv_get hv (k := 105) (j := 5) (l := 0) (u := 10) rfl
                                have h1039_ := iv_get hv (k := 146) (j := 68) (l := 0) (u := 10) rfl
                                exact lw_op546 E d hd hL y3 hy0 (by omega) hnext a b hv hg0 hg1 hg2 hg3 hg4 hg5 (show a 4 6 = a 146 2 from by omega) (show a 2 1 = a 146 22 from by omega) (show a 105 5 = a 146 68 from by omega)
                              ·
                                refine jt_ite (fun c1040_ => ?_) (fun c1040_ => ?_)
                                ·
                                  have h1041_ := iv_get hv (k := 4) (j := 6) (l := 0) (u := 40) rfl
                                  have h1042_ := iv_get hv (k := 146) (j := 2) (l := 0) (u := 40) rfl
                                  have h1043_ := iv_get hv (k := 2) (j := 1) (l := 0) (u := 200) rfl
                                  have h1044_ := iv_get hv (k := 146) (j := 22) (l := 0) (u := 200) rfl
                                  have h1045_ := iv_get hv (k := 105) (j := 5) (l := 0) (u := 10) rfl
                                  have h1046_ := iv_get hv (k := 146) (j := 68) (l := 0) (u := 10) rfl
                                  exact lw_op559 E d hd hL y3 hy0 (by omega) hnext a b hv hg0 hg1 hg2 hg3 hg4 hg5 (show a 4 6 = a 146 2 from by omega) (show a 2 1 = a 146 22 from by omega) (show a 105 5 = a 146 68 from by omega)
                                ·
                                  refine jt_ite (fun c1047_ => ?_) (fun c1047_ => ?_)
                                  ·
                                    have h1048_ := iv_get hv (k := 4) (j := 6) (l := 0) (u := 40) rfl
                                    have h1049_ := iv_get hv (k := 146) (j := 2) (l := 0) (u := 40) rfl
                                    have h1050_ := iv_get hv (k := 2) (j := 1) (l := 0) (u := 200) rfl
                                    have h1051_ := iv_get hv (k := 146) (j := 22) (l := 0) (u := 200) rfl
                                    have h1052_ := iv_get hv (k := 105) (j := 5) (l := 0) (u := 10) rfl
                                    have h1053_ := iv_get hv (k := 146) (j := 68) (l := 0) (u := 10) rfl
                                    exact lw_op592 E d hd hL y3 hy0 (by omega) hnext a b hv hg0 hg1 hg2 hg3 hg4 hg5 (show a 4 6 = a 146 2 from by omega) (show a 2 1 = a 146 22 from by omega) (show a 105 5 = a 146 68 from by omega)
                                  ·
                                    refine jt_ite (fun c1054_ => ?_) (fun c1054_ => ?_)
                                    ·
                                      have h1055_ := iv_get hv (k := 4) (j := 6) (l := 0) (u := 40) rfl
                                      have h1056_ := iv_get hv (k := 146) (j := 2) (l := 0) (u := 40) rfl
                                      have h1057_ := iv_get hv (k := 2) (j := 1) (l := 0) (u := 200) rfl
                                      have h1058_ := iv_get hv (k := 146) (j := 22) (l := 0) (u := 200) rfl
                                      have h1059_ := iv_get hv (k := 105) (j := 5) (l := 0) (u := 10) rfl
                                      have h1060_ := iv_get hv (k := 146) (j := 68) (l := 0) (u := 10) rfl
                                      exact lw_op615 E d hd hL y3 hy0 (by omega) hnext a b hv hg0 hg1 hg2 hg3 hg4 hg5 (show a 4 6 = a 146 2 from by omega) (show a 2 1 = a 146 22 from by omega) (show a 105 5 = a 146 68 from by omega)
                                    ·
                                      refine jt_ite (fun c1061_ => ?_) (fun c1061_ => ?_)
                                      ·
                                        have h1062_ := iv_get hv (k := 4) (j := 6) (l := 0) (u := 40) rfl
                                        have h1063_ := iv_get hv (k := 146) (j := 2) (l := 0) (u := 40) rfl
                                        have h1064_ := iv_get hv (k := 2) (j := 1) (l := 0) (u := 200) rfl
                                        have h1065_ := iv_get hv (k := 146) (j := 22) (l := 0) (u := 200) rfl
                                        have h1066_ := iv_get hv (k := 105) (j := 5) (l := 0) (u := 10) rfl
                                        have h1067_ := iv_get hv (k := 146) (j := 68) (l := 0) (u := 10) rfl
                                        exact lw_op648 E d hd hL y3 hy0 (by omega) hnext a b hv hg0 hg1 hg2 hg3 hg4 hg5 (show a 4 6 = a 146 2 from by omega) (show a 2 1 = a 146 22 from by omega) (show a 105 5 = a 146 68 from by omega)
                                      ·
                                        refine jt_ite (fun c1068_ => ?_) (fun c1068_ => ?_)
                                        ·
                                          have h1069_ := iv_get hv (k := 4) (j := 6) (l := 0) (u := 40) rfl
                                          have h1070_ := iv_get hv (k := 146) (j := 2) (l := 0) (u := 40) rfl
                                          have h1071_ := iv_get hv (k := 2) (j := 1) (l := 0) (u := 200) rfl
                                          have h1072_ := iv_get hv (k := 146) (j := 22) (l := 0) (u := 200) rfl
                                          have h1073_ := iv_get hv (k := 105) (j := 5) (l := 0) (u := 10) rfl
                                          have h1074_ := iv_get hv (k := 146) (j := 68) (l := 0) (u := 10) rfl
                                          exact lw_op691 E d hd hL y3 hy0 (by omega) hnext a b hv hg0 hg1 hg2 hg3 hg4 hg5 (show a 4 6 = a 146 2 from by omega) (show a 2 1 = a 146 22 from by omega) (show a 105 5 = a 146 68 from by omega)
                                        ·
                                          refine jt_ite (fun c1075_ => ?_) (fun c1075_ => ?_)
                                          ·
                                            have h1076_ := iv_get hv (k := 4) (j := 6) (l := 0) (u := 40) rfl
                                            have h1077_ := iv_get hv (k := 146) (j := 2) (l := 0) (u := 40) rfl
                                            have h1078_ := iv_get hv (k := 2) (j := 1) (l := 0) (u := 200) rfl
                                            have h1079_ := iv_get hv (k := 146) (j := 22) (l := 0) (u := 200) rfl
                                            have h1080_ := iv_get hv (k := 105) (j := 5) (l := 0) (u := 10) rfl
                                            have h1081_ := iv_get hv (k := 146) (j := 68) (l := 0) (u := 10) rfl
                                            exact lw_op724 E d hd hL y3 hy0 (by omega) hnext a b hv hg0 hg1 hg2 hg3 hg4 hg5 (show a 4 6 = a 146 2 from by omega) (show a 2 1 = a 146 22 from by omega) (show a 105 5 = a 146 68 from by omega)
                                          ·
                                            refine jt_ite (fun c1082_ => ?_) (fun c1082_ => ?_)
                                            ·
                                              have h1083_ := iv_get hv (k := 4) (j := 6) (l := 0) (u := 40) rfl
                                              have h1084_ := iv_get hv (k := 146) (j := 2) (l := 0) (u := 40) rfl
                                              have h1085_ := iv_get hv (k := 2) (j := 1) (l := 0) (u := 200) rfl
                                              have h1086_ := iv_get hv (k := 146) (j := 22) (l := 0) (u := 200) rfl
                                              have h1087_ := iv_get hv (k := 105) (j := 5) (l := 0) (u := 10) rfl
                                              have h1088_ := iv_get hv (k := 146) (j := 68) (l := 0) (u := 10) rfl
                                              exact lw_op747 E d hd hL y3 hy0 (by omega) hnext a b hv hg0 hg1 hg2 hg3 hg4 hg5 (show a 4 6 = a 146 2 from by omega) (show a 2 1 = a 146 22 from by omega) (show a 105 5 = a 146 68 from by omega)
                                            ·
                                              refine jt_ite (fun c1089_ => ?_) (fun c1089_ => ?_)
                                              ·
                                                have h1090_ := iv_get hv (k := 4) (j := 6) (l := 0) (u := 40) rfl
                                                have h1091_ := iv_get hv (k := 146) (j := 2) (l := 0) (u := 40) rfl
                                                have h1092_ := iv_get hv (k := 2) (j := 1) (l := 0) (u := 200) rfl
                                                have h1093_ := iv_get hv (k := 146) (j := 22) (l := 0) (u := 200) rfl
                                                have h1094_ := iv_get hv (k := 105) (j := 5) (l := 0) (u := 10) rfl
                                                have h1095_ := iv_get hv (k := 146) (j := 68) (l := 0) (u := 10) rfl
                                                exact lw_op790 E d hd hL y3 hy0 (by omega) hnext a b hv hg0 hg1 hg2 hg3 hg4 hg5 (show a 4 6 = a 146 2 from by omega) (show a 2 1 = a 146 22 from by omega) (show a 105 5 = a 146 68 from by omega)
                                              ·
                                                refine jt_ite (fun c1096_ => ?_) (fun c1096_ => ?_)
                                                ·
                                                  have h1097_ := iv_get hv (k := 4) (j := 6) (l := 0) (u := 40) rfl
                                                  have h1098_ := iv_get hv (k := 146) (j := 2) (l := 0) (u := 40) rfl
                                                  have h1099_ := iv_get hv (k := 2) (j := 1) (l := 0) (u := 200) rfl
                                                  have h1100_ := iv_get hv (k := 146) (j := 22) (l := 0) (u := 200) rfl
                                                  have h1101_ := iv_get hv (k := 105) (j := 5) (l := 0) (u := 10) rfl
                                                  have h1102_ := iv_get hv (k := 146) (j := 68) (l := 0) (u := 10) rfl
                                                  exact lw_op833 E d hd hL y3 hy0 (by omega) hnext a b hv hg0 hg1 hg2 hg3 hg4 hg5 (show a 4 6 = a 146 2 from by omega) (show a 2 1 = a 146 22 from by omega) (show a 105 5 = a 146 68 from by omega)
                                                ·
                                                  refine jt_ite (fun c1103_ => ?_) (fun c1103_ => ?_)
                                                  ·
                                                    have h1104_ := iv_get hv (k := 4) (j := 6) (l := 0) (u := 40) rfl
                                                    have h1105_ := iv_get hv (k := 146) (j := 2) (l := 0) (u := 40) rfl
                                                    have h1106_ := iv_get hv (k := 2) (j := 1) (l := 0) (u := 200) rfl
                                                    have h1107_ := iv_get hv (k := 146) (j := 22) (l := 0) (u := 200) rfl
                                                    have h1108_ := iv_get hv (k := 105) (j := 5) (l := 0) (u := 10) rfl
                                                    have h1109_ := iv_get hv (k := 146) (j := 68) (l := 0) (u := 10) rfl
                                                    exact lw_op856 E d hd hL y3 hy0 (by omega) hnext a b hv hg0 hg1 hg2 hg3 hg4 hg5 (show a 4 6 = a 146 2 from by omega) (show a 2 1 = a 146 22 from by omega) (show a 105 5 = a 146 68 from by omega)
                                                  ·
                                                    refine jt_ite (fun c1110_ => ?_) (fun c1110_ => ?_)
                                                    ·
                                                      have h1111_ := iv_get hv (k := 4) (j := 6) (l := 0) (u := 40) rfl
                                                      have h1112_ := iv_get hv (k := 146) (j := 2) (l := 0) (u := 40) rfl
                                                      have h1113_ := iv_get hv (k := 2) (j := 1) (l := 0) (u := 200) rfl
                                                      have h1114_ := iv_get hv (k := 146) (j := 22) (l := 0) (u := 200) rfl
                                                      have h1115_ := iv_get hv (k := 105) (j := 5) (l := 0) (u := 10) rfl
                                                      have h1116_ := iv_get hv (k := 146) (j := 68) (l := 0) (u := 10) rfl
                                                      exact lw_op869 E d hd hL y3 hy0 (by omega) hnext a b hv hg0 hg1 hg2 hg3 hg4 hg5 (show a 4 6 = a 146 2 from by omega) (show a 2 1 = a 146 22 from by omega) (show a 105 5 = a 146 68 from by omega)
                                                    ·
                                                      refine jt_ite (fun c1117_ => ?_) (fun c1117_ => ?_)
                                                      ·
                                                        have h1118_ := iv_get hv (k := 4) (j := 6) (l := 0) (u := 40) rfl
                                                        have h1119_ := iv_get hv (k := 146) (j := 2) (l := 0) (u := 40) rfl
                                                        have h1120_ := iv_get hv (k := 2) (j := 1) (l := 0) (u := 200) rfl
                                                        have h1121_ := iv_get hv (k := 146) (j := 22) (l := 0) (u := 200) rfl
                                                        have h1122_ := iv_get hv (k := 105) (j := 5) (l := 0) (u := 10) rfl
                                                        have h1123_ := iv_get hv (k := 146) (j := 68) (l := 0) (u := 10) rfl
                                                        exact lw_op902 E d hd hL y3 hy0 (by omega) hnext a b hv hg0 hg1 hg2 hg3 hg4 hg5 (show a 4 6 = a 146 2 from by omega) (show a 2 1 = a 146 22 from by omega) (show a 105 5 = a 146 68 from by omega)
                                                      ·
                                                        refine jt_ite (fun c1124_ => ?_) (fun c1124_ => ?_)
                                                        ·
                                                          have h1125_ := iv_get hv (k := 4) (j := 6) (l := 0) (u := 40) rfl
                                                          have h1126_ := iv_get hv (k := 146) (j := 2) (l := 0) (u := 40) rfl
                                                          have h1127_ := iv_get hv (k := 2) (j := 1) (l := 0) (u := 200) rfl
                                                          have h1128_ := iv_get hv (k := 146) (j := 22) (l := 0) (u := 200) rfl
                                                          have h1129_ := iv_get hv (k := 105) (j := 5) (l := 0) (u := 10) rfl
                                                          have h1130_ := iv_get hv (k := 146) (j := 68) (l := 0) (u := 10) rfl
                                                          exact lw_op925 E d hd hL y3 hy0 (by omega) hnext a b hv hg0 hg1 hg2 hg3 hg4 hg5 (show a 4 6 = a 146 2 from by omega) (show a 2 1 = a 146 22 from by omega) (show a 105 5 = a 146 68 from by omega)
                                                        ·
                                                          refine jt_ite (fun c1131_ => ?_) (fun c1131_ => ?_)
                                                          ·
                                                            have h1132_ := iv_get hv (k := 4) (j := 6) (l := 0) (u := 40) rfl
                                                            have h1133_ := iv_get hv (k := 146) (j := 2) (l := 0) (u := 40) rfl
                                                            have h1134_ := iv_get hv (k := 2) (j := 1) (l := 0) (u := 200) rfl
                                                            have h1135_ := iv_get hv (k := 146) (j := 22) (l := 0) (u := 200) rfl
                                                            have h1136_ := iv_get hv (k := 105) (j := 5) (l := 0) (u := 10) rfl
                                                            have h1137_ := iv_get hv (k := 146) (j := 68) (l := 0) (u := 10) rfl
                                                            exact lw_op958 E d hd hL y3 hy0 (by omega) hnext a b hv hg0 hg1 hg2 hg3 hg4 hg5 (show a 4 6 = a 146 2 from by omega) (show a 2 1 = a 146 22 from by omega) (show a 105 5 = a 146 68 from by omega)
                                                          ·
                                                            refine jt_ite (fun c1138_ => ?_) (fun c1138_ => ?_)
                                                            ·
                                                              have h1139_ := iv_get hv (k := 4) (j := 6) (l := 0) (u := 40) rfl
                                                              have h1140_ := iv_get hv (k := 146) (j := 2) (l := 0) (u := 40) rfl
                                                              have h1141_ := iv_get hv (k := 2) (j := 1) (l := 0) (u := 200) rfl
                                                              have h1142_ := iv_get hv (k := 146) (j := 22) (l := 0) (u := 200) rfl
                                                              have h1143_ := iv_get hv (k := 105) (j := 5) (l := 0) (u := 10) rfl
                                                              have h1144_ := iv_get hv (k := 146) (j := 68) (l := 0) (u := 10) rfl
                                                              exact lw_op991 E d hd hL y3 hy0 (by omega) hnext a b hv hg0 hg1 hg2 hg3 hg4 hg5 (show a 4 6 = a 146 2 from by omega) (show a 2 1 = a 146 22 from by omega) (show a 105 5 = a 146 68 from by omega)
                                                            ·
                                                              refine jt_ite (fun c1145_ => ?_) (fun c1145_ => ?_)
                                                              ·
                                                                have h1146_ := iv_get hv (k := 4) (j := 6) (l := 0) (u := 40) rfl
                                                                have h1147_ := iv_get hv (k := 146) (j := 2) (l := 0) (u := 40) rfl
                                                                have h1148_ := iv_get hv (k := 2) (j := 1) (l := 0) (u := 200) rfl
                                                                have h1149_ := iv_get hv (k := 146) (j := 22) (l := 0) (u := 200) rfl
                                                                have h1150_ := iv_get hv (k := 105) (j := 5) (l := 0) (u := 10) rfl
                                                                have h1151_ := iv_get hv (k := 146) (j := 68) (l := 0) (u := 10) rfl
                                                                exact lw_op1014 E d hd hL y3 hy0 (by omega) hnext a b hv hg0 hg1 hg2 hg3 hg4 hg5 (show a 4 6 = a 146 2 from by omega) (show a 2 1 = a 146 22 from by omega) (show a 105 5 = a 146 68 from by omega)
                                                              ·
                                                                refine jt_ite (fun c1152_ => ?_) (fun c1152_ => ?_)
                                                                ·
                                                                  have h1153_ := iv_get hv (k := 4) (j := 6) (l := 0) (u := 40) rfl
                                                                  have h1154_ := iv_get hv (k := 146) (j := 2) (l := 0) (u := 40) rfl
                                                                  have h1155_ := iv_get hv (k := 2) (j := 1) (l := 0) (u := 200) rfl
                                                                  have h1156_ := iv_get hv (k := 146) (j := 22) (l := 0) (u := 200) rfl
                                                                  have h1157_ := iv_get hv (k := 105) (j := 5) (l := 0) (u := 10) rfl
                                                                  have h1158_ := iv_get hv (k := 146) (j := 68) (l := 0) (u := 10) rfl
                                                                  exact lw_op1067 E d hd hL y3 hy0 (by omega) hnext a b hv hg0 hg1 hg2 hg3 hg4 hg5 (show a 4 6 = a 146 2 from by omega) (show a 2 1 = a 146 22 from by omega) (show a 105 5 = a 146 68 from by omega)
                                                                ·
                                                                  refine jt_ite (fun c1159_ => ?_) (fun c1159_ => ?_)
                                                                  ·
                                                                    have h1160_ := iv_get hv (k := 4) (j := 6) (l := 0) (u := 40) rfl
                                                                    have h1161_ := iv_get hv (k := 146) (j := 2) (l := 0) (u := 40) rfl
                                                                    have h1162_ := iv_get hv (k := 2) (j := 1) (l := 0) (u := 200) rfl
                                                                    have h1163_ := iv_get hv (k := 146) (j := 22) (l := 0) (u := 200) rfl
                                                                    have h1164_ := iv_get hv (k := 105) (j := 5) (l := 0) (u := 10) rfl
                                                                    have h1165_ := iv_get hv (k := 146) (j := 68) (l := 0) (u := 10) rfl
                                                                    exact lw_op1110 E d hd hL y3 hy0 (by omega) hnext a b hv hg0 hg1 hg2 hg3 hg4 hg5 (show a 4 6 = a 146 2 from by omega) (show a 2 1 = a 146 22 from by omega) (show a 105 5 = a 146 68 from by omega)
                                                                  ·
                                                                    refine jt_ite (fun c1166_ => ?_) (fun c1166_ => ?_)
                                                                    ·
                                                                      have h1167_ := iv_get hv (k := 4) (j := 6) (l := 0) (u := 40) rfl
                                                                      have h1168_ := iv_get hv (k := 146) (j := 2) (l := 0) (u := 40) rfl
                                                                      have h1169_ := iv_get hv (k := 2) (j := 1) (l := 0) (u := 200) rfl
                                                                      have h1170_ := iv_get hv (k := 146) (j := 22) (l := 0) (u := 200) rfl
                                                                      have h1171_ := iv_get hv (k := 105) (j := 5) (l := 0) (u := 10) rfl
                                                                      have h1172_ := iv_get hv (k := 146) (j := 68) (l := 0) (u := 10) rfl
                                                                      exact lw_op1143 E d hd hL y3 hy0 (by omega) hnext a b hv hg0 hg1 hg2 hg3 hg4 hg5 (show a 4 6 = a 146 2 from by omega) (show a 2 1 = a 146 22 from by omega) (show a 105 5 = a 146 68 from by omega)
                                                                    ·
                                                                      refine jt_ite (fun c1173_ => ?_) (fun c1173_ => ?_)
                                                                      ·
                                                                        have h1174_ := iv_get hv (k := 4) (j := 6) (l := 0) (u := 40) rfl
                                                                        have h1175_ := iv_get hv (k := 146) (j := 2) (l := 0) (u := 40) rfl
                                                                        have h1176_ := iv_get hv (k := 2) (j := 1) (l := 0) (u := 200) rfl
                                                                        have h1177_ := iv_get hv (k := 146) (j := 22) (l := 0) (u := 200) rfl
                                                                        have h1178_ := iv_get hv (k := 105) (j := 5) (l := 0) (u := 10) rfl
                                                                        have h1179_ := iv_get hv (k := 146) (j := 68) (l := 0) (u := 10) rfl
                                                                        exact lw_op1166 E d hd hL y3 hy0 (by omega) hnext a b hv hg0 hg1 hg2 hg3 hg4 hg5 (show a 4 6 = a 146 2 from by omega) (show a 2 1 = a 146 22 from by omega) (show a 105 5 = a 146 68 from by omega)
                                                                      ·
                                                                        exact absurd (by omega : False) id
