theorem jt_bif {c : Bool} {X Y : Option jxR} {Q : List jxV → (Nat → Nat → Int) → (Nat → Nat → Int) → Prop} (hc : c = true) (h : jt X Q) : jt (bif c then X else Y) Q := by
  rw [hc]; exact h
theorem lw_op180 (E : jxE) (d : Nat) (hd : Nat.ble 60 (d + 1) = true) (hL : E.1 ≤ 3072) (y3 : Int) (hy0 : 0 ≤ y3) (hy1 : y3 + 6 ≤ E.1) (hnext : ∀ (a b : Nat → Nat → Int) (hv : iv a) (hg0 : WFW a) (hg1 : SV a) (hg2 : OC a) (hg3 : FO a) (hg4 : FW a) (hg5 : TAPE a) (hg6 : MEMR a) (hg7 : FARR a) (hg8 : WISHR a) (hg9 : CIC a) (hg10 : STR a) (hr0 : a 0 0 = a 146 0) (hr1 : a 4 6 = a 146 2) (hr2 : a 2 1 = a 146 22) (hr3 : a 105 5 = a 146 68), jt (jxX E d 305 1189 [some (.inr (.inr (.inl 3000))), some (.inr (.inr (.inl 0))), some (.inr (.inr (.inl 146))), some (.inl y3)] [] (jxSH, a, b)) (fun v _ _ => v = [.inl 1])) (a b : Nat → Nat → Int) (hv : iv a) (hg0 : WFW a) (hg1 : SV a) (hg2 : OC a) (hg3 : FO a) (hg4 : FW a) (hg5 : TAPE a) (hg6 : MEMR a) (hg7 : FARR a) (hg8 : WISHR a) (hg9 : CIC a) (hg10 : STR a) (hr0 : a 0 0 = a 146 0) (hr1 : a 4 6 = a 146 2) (hr2 : a 2 1 = a 146 22) (hr3 : a 105 5 = a 146 68) : jt (jxX E d 305 180 [some (.inr (.inr (.inl 3000))), some (.inr (.inr (.inl 0))), some (.inr (.inr (.inl 146))), some (.inl y3)] [] (jxSH, a, b)) (fun v _ _ => v = [.inl 1]) := by
  refine jt_eq (bq_law_180 E d y3 a b) ?_
  have h1_ := iv_get hv (k := 0) (j := 0) (l := 0) (u := 1999) rfl
  have h2_ := iv_get hv (k := 146) (j := 0) (l := 0) (u := 1999) rfl
  have h3_ := iv_get hv (k := 4) (j := 6) (l := 0) (u := 40) rfl
  have h4_ := iv_get hv (k := 146) (j := 2) (l := 0) (u := 40) rfl
  have h5_ := iv_get hv (k := 2) (j := 1) (l := 0) (u := 200) rfl
  have h6_ := iv_get hv (k := 146) (j := 22) (l := 0) (u := 200) rfl
  have h7_ := iv_get hv (k := 105) (j := 5) (l := 0) (u := 10) rfl
  have h8_ := iv_get hv (k := 146) (j := 68) (l := 0) (u := 10) rfl
  have hBAS : BAS a := ⟨hv, hr0, hr1, hg6, hg7, hg8⟩
  have hring := AL_ring (b := b) (b2 := b) hBAS hg10 ((E.2 ((jxw (y3 + 1)).toNat))) ((E.2 ((jxw (y3 + 2)).toNat)))
  refine jt_bif (Nat.ble_eq_true_of_le (by omega)) ?_
  have h9_ : jxw (y3 + 1) = y3 + 1 := jxw_id (by omega) (by omega)
  refine jt_grd (by omega) ?_
  refine jt_bI (sp_X11_clock E d (jd_le hd rfl) (E.2 ((jxw (y3 + 1)).toNat)) a b hv) (fun r10_ a10_ b10_ h10_ => ?_)
  obtain ⟨hv10_, hf10_, rfl, hq10_0, hq10_1⟩ := h10_
  have h11_ := iv_get hv10_ (k := 0) (j := 0) (l := 0) (u := 1999) rfl
  refine jt_eq (bq_law_190 E d y3 a10_ b) ?_
  refine jt_bif (Nat.ble_eq_true_of_le (by omega)) ?_
  refine jt_grd (by omega) ?_
  refine jt_bI (sp_X12_clock E d (jd_le hd rfl) (E.2 ((jxw (y3 + 1)).toNat)) a10_ b hv10_) (fun r12_ a12_ b12_ h12_ => ?_)
  obtain ⟨hv12_, hf12_, rfl, hq12_0, hq12_1⟩ := h12_
  have h13_ := iv_get hv10_ (k := 146) (j := 0) (l := 0) (u := 1999) rfl
  have h14_ : a10_ 146 0 = a 146 0 := hf10_ 146 0 rfl
  have h15_ := iv_get hv12_ (k := 146) (j := 0) (l := 0) (u := 1999) rfl
  have hS12 : STR a12_ := ST_on hg10 (CLS_fr hf10_ rfl) (RFS_fr hf12_ rfl) (KOF_fr hf10_ rfl) (KOFr_fr hf12_ rfl) (KFD_fr hf10_ rfl) (KFDr_fr hf12_ rfl) (KLS_fr hf10_ rfl) (KLSr_fr hf12_ rfl) (cvC_fr hf10_ rfl) (cvR_fr hf12_ rfl) (funext fun j => hf10_ 9 j rfl) (funext fun j => hf12_ 153 j rfl) (by rw [hf10_ 4 6 rfl]; exact Int.le_refl _) (by omega) (RLE_mk hg10.1.2.2.2.2 (CLS_fr hf10_ rfl) (RFS_fr hf12_ rfl) (funext fun j => hf10_ 56 j rfl) (funext fun j => hf12_ 171 j rfl))
  have h16_ := iv_get hv12_ (k := 0) (j := 0) (l := 0) (u := 1999) rfl
  have h17_ : a12_ 0 0 = a10_ 0 0 := hf12_ 0 0 rfl
  have h18_ := iv_get hv12_ (k := 4) (j := 6) (l := 0) (u := 40) rfl
  have h19_ : a12_ 4 6 = a10_ 4 6 := hf12_ 4 6 rfl
  have h20_ := iv_get hv10_ (k := 4) (j := 6) (l := 0) (u := 40) rfl
  have h21_ : a10_ 4 6 = a 4 6 := hf10_ 4 6 rfl
  have h22_ := iv_get hv12_ (k := 146) (j := 2) (l := 0) (u := 40) rfl
  have h23_ : a12_ 146 2 = a10_ 146 2 := hf12_ 146 2 rfl
  have h24_ := iv_get hv10_ (k := 146) (j := 2) (l := 0) (u := 40) rfl
  have h25_ : a10_ 146 2 = a 146 2 := hf10_ 146 2 rfl
  have h26_ := iv_get hv12_ (k := 2) (j := 1) (l := 0) (u := 200) rfl
  have h27_ : a12_ 2 1 = a10_ 2 1 := hf12_ 2 1 rfl
  have h28_ := iv_get hv10_ (k := 2) (j := 1) (l := 0) (u := 200) rfl
  have h29_ : a10_ 2 1 = a 2 1 := hf10_ 2 1 rfl
  have h30_ := iv_get hv12_ (k := 146) (j := 22) (l := 0) (u := 200) rfl
  have h31_ : a12_ 146 22 = a10_ 146 22 := hf12_ 146 22 rfl
  have h32_ := iv_get hv10_ (k := 146) (j := 22) (l := 0) (u := 200) rfl
  have h33_ : a10_ 146 22 = a 146 22 := hf10_ 146 22 rfl
  have h34_ := iv_get hv12_ (k := 105) (j := 5) (l := 0) (u := 10) rfl
  have h35_ : a12_ 105 5 = a10_ 105 5 := hf12_ 105 5 rfl
  have h36_ := iv_get hv10_ (k := 105) (j := 5) (l := 0) (u := 10) rfl
  have h37_ : a10_ 105 5 = a 105 5 := hf10_ 105 5 rfl
  have h38_ := iv_get hv12_ (k := 146) (j := 68) (l := 0) (u := 10) rfl
  have h39_ : a12_ 146 68 = a10_ 146 68 := hf12_ 146 68 rfl
  have h40_ := iv_get hv10_ (k := 146) (j := 68) (l := 0) (u := 10) rfl
  have h41_ : a10_ 146 68 = a 146 68 := hf10_ 146 68 rfl
  exact hnext a12_ b hv12_ (WFW_fr (WFW_fr hg0 hf10_ (fun _ => rfl) (fun _ => rfl)) hf12_ (fun _ => rfl) (fun _ => rfl)) (SV_fr (SV_fr hg1 hf10_ (fun _ => rfl) (fun _ => rfl)) hf12_ (fun _ => rfl) (fun _ => rfl)) (OC_fr (OC_fr hg2 hf10_ rfl rfl (fun _ => rfl) (fun _ => rfl) (fun _ => rfl) (fun _ => rfl) (fun _ => rfl)) hf12_ rfl rfl (fun _ => rfl) (fun _ => rfl) (fun _ => rfl) (fun _ => rfl) (fun _ => rfl)) (FO_fr (FO_fr hg3 hf10_ rfl rfl (fun _ => rfl)) hf12_ rfl rfl (fun _ => rfl)) (FW_fr (FW_fr hg4 hf10_ rfl (fun _ => rfl)) hf12_ rfl (fun _ => rfl)) (TAPE_fr (TAPE_fr hg5 hf10_ (fun _ => rfl) (fun _ => rfl)) hf12_ (fun _ => rfl) (fun _ => rfl)) (MEMR_fr (MEMR_fr hg6 hf10_ (fun _ => rfl) (fun _ => rfl) (fun _ => rfl) (fun _ => rfl) (fun _ => rfl) (fun _ => rfl) (fun _ => rfl) (fun _ => rfl) (fun _ => rfl) (fun _ => rfl)) hf12_ (fun _ => rfl) (fun _ => rfl) (fun _ => rfl) (fun _ => rfl) (fun _ => rfl) (fun _ => rfl) (fun _ => rfl) (fun _ => rfl) (fun _ => rfl) (fun _ => rfl)) (FARR_fr (FARR_fr hg7 hf10_ (fun _ => rfl) (fun _ => rfl)) hf12_ (fun _ => rfl) (fun _ => rfl)) (WISHR_fr (WISHR_fr hg8 hf10_ (fun _ => rfl) (fun _ => rfl) (fun _ => rfl) (fun _ => rfl)) hf12_ (fun _ => rfl) (fun _ => rfl) (fun _ => rfl) (fun _ => rfl)) hS12.1.2.2.1 hS12 (show a12_ 0 0 = a12_ 146 0 from by omega) (show a12_ 4 6 = a12_ 146 2 from by omega) (show a12_ 2 1 = a12_ 146 22 from by omega) (show a12_ 105 5 = a12_ 146 68 from by omega)
theorem lw_op203 (E : jxE) (d : Nat) (hd : Nat.ble 60 (d + 1) = true) (hL : E.1 ≤ 3072) (y3 : Int) (hy0 : 0 ≤ y3) (hy1 : y3 + 6 ≤ E.1) (hnext : ∀ (a b : Nat → Nat → Int) (hv : iv a) (hg0 : WFW a) (hg1 : SV a) (hg2 : OC a) (hg3 : FO a) (hg4 : FW a) (hg5 : TAPE a) (hg6 : MEMR a) (hg7 : FARR a) (hg8 : WISHR a) (hg9 : CIC a) (hg10 : STR a) (hr0 : a 0 0 = a 146 0) (hr1 : a 4 6 = a 146 2) (hr2 : a 2 1 = a 146 22) (hr3 : a 105 5 = a 146 68), jt (jxX E d 305 1189 [some (.inr (.inr (.inl 3000))), some (.inr (.inr (.inl 0))), some (.inr (.inr (.inl 146))), some (.inl y3)] [] (jxSH, a, b)) (fun v _ _ => v = [.inl 1])) (a b : Nat → Nat → Int) (hv : iv a) (hg0 : WFW a) (hg1 : SV a) (hg2 : OC a) (hg3 : FO a) (hg4 : FW a) (hg5 : TAPE a) (hg6 : MEMR a) (hg7 : FARR a) (hg8 : WISHR a) (hg9 : CIC a) (hg10 : STR a) (hr0 : a 0 0 = a 146 0) (hr1 : a 4 6 = a 146 2) (hr2 : a 2 1 = a 146 22) (hr3 : a 105 5 = a 146 68) : jt (jxX E d 305 203 [some (.inr (.inr (.inl 3000))), some (.inr (.inr (.inl 0))), some (.inr (.inr (.inl 146))), some (.inl y3)] [] (jxSH, a, b)) (fun v _ _ => v = [.inl 1]) := by
  refine jt_eq (bq_law_203 E d y3 a b) ?_
  have h42_ := iv_get hv (k := 0) (j := 0) (l := 0) (u := 1999) rfl
  have h43_ := iv_get hv (k := 146) (j := 0) (l := 0) (u := 1999) rfl
  have h44_ := iv_get hv (k := 4) (j := 6) (l := 0) (u := 40) rfl
  have h45_ := iv_get hv (k := 146) (j := 2) (l := 0) (u := 40) rfl
  have h46_ := iv_get hv (k := 2) (j := 1) (l := 0) (u := 200) rfl
  have h47_ := iv_get hv (k := 146) (j := 22) (l := 0) (u := 200) rfl
  have h48_ := iv_get hv (k := 105) (j := 5) (l := 0) (u := 10) rfl
  have h49_ := iv_get hv (k := 146) (j := 68) (l := 0) (u := 10) rfl
  have hBAS : BAS a := ⟨hv, hr0, hr1, hg6, hg7, hg8⟩
  have hring := AL_ring (b := b) (b2 := b) hBAS hg10 ((E.2 ((jxw (y3 + 1)).toNat))) ((E.2 ((jxw (y3 + 2)).toNat)))
  refine jt_bif (Nat.ble_eq_true_of_le (by omega)) ?_
  have h50_ : jxw (y3 + 1) = y3 + 1 := jxw_id (by omega) (by omega)
  refine jt_grd (by omega) ?_
  refine jt_bif (Nat.ble_eq_true_of_le (by omega)) ?_
  have h51_ : jxw (y3 + 2) = y3 + 2 := jxw_id (by omega) (by omega)
  refine jt_grd (by omega) ?_
  refine jt_bif (Nat.ble_eq_true_of_le (by omega)) ?_
  have h52_ : jxw (y3 + 3) = y3 + 3 := jxw_id (by omega) (by omega)
  refine jt_grd (by omega) ?_
  refine jt_bI (sp_X11_far E d (jd_le hd rfl) (E.2 ((jxw (y3 + 1)).toNat)) (E.2 ((jxw (y3 + 2)).toNat)) (E.2 ((jxw (y3 + 3)).toNat)) a b hv) (fun r53_ a53_ b53_ h53_ => ?_)
  obtain ⟨hv53_, hf53_, rfl, hq53_0⟩ := h53_
  refine jt_eq (bq_law_223 E d y3 a53_ b) ?_
  refine jt_bif (Nat.ble_eq_true_of_le (by omega)) ?_
  refine jt_grd (by omega) ?_
  refine jt_bif (Nat.ble_eq_true_of_le (by omega)) ?_
  refine jt_grd (by omega) ?_
  refine jt_bif (Nat.ble_eq_true_of_le (by omega)) ?_
  refine jt_grd (by omega) ?_
  refine jt_bI (sp_X12_far E d (jd_le hd rfl) (E.2 ((jxw (y3 + 1)).toNat)) (E.2 ((jxw (y3 + 2)).toNat)) (E.2 ((jxw (y3 + 3)).toNat)) a53_ b hv53_) (fun r54_ a54_ b54_ h54_ => ?_)
  obtain ⟨hv54_, hf54_, rfl, hq54_0⟩ := h54_
  have hd54 := FarP_det hq53_0 hq54_0 (fun j => by rw [hf53_ 147 j rfl]; exact hg7 j)
  have hF54 : FARR a54_ := fun j => by rw [hf54_ 1 j rfl]; exact hd54.2 j
  refine jt_eq (bq_law_243 E d y3 a54_ b) ?_
  have h55_ := iv_get hv54_ (k := 0) (j := 0) (l := 0) (u := 1999) rfl
  have h56_ : a54_ 0 0 = a53_ 0 0 := hf54_ 0 0 rfl
  have h57_ := iv_get hv53_ (k := 0) (j := 0) (l := 0) (u := 1999) rfl
  have h58_ : a53_ 0 0 = a 0 0 := hf53_ 0 0 rfl
  have h59_ := iv_get hv54_ (k := 146) (j := 0) (l := 0) (u := 1999) rfl
  have h60_ : a54_ 146 0 = a53_ 146 0 := hf54_ 146 0 rfl
  have h61_ := iv_get hv53_ (k := 146) (j := 0) (l := 0) (u := 1999) rfl
  have h62_ : a53_ 146 0 = a 146 0 := hf53_ 146 0 rfl
  have h63_ := iv_get hv54_ (k := 4) (j := 6) (l := 0) (u := 40) rfl
  have h64_ : a54_ 4 6 = a53_ 4 6 := hf54_ 4 6 rfl
  have h65_ := iv_get hv53_ (k := 4) (j := 6) (l := 0) (u := 40) rfl
  have h66_ : a53_ 4 6 = a 4 6 := hf53_ 4 6 rfl
  have h67_ := iv_get hv54_ (k := 146) (j := 2) (l := 0) (u := 40) rfl
  have h68_ : a54_ 146 2 = a53_ 146 2 := hf54_ 146 2 rfl
  have h69_ := iv_get hv53_ (k := 146) (j := 2) (l := 0) (u := 40) rfl
  have h70_ : a53_ 146 2 = a 146 2 := hf53_ 146 2 rfl
  have h71_ := iv_get hv54_ (k := 2) (j := 1) (l := 0) (u := 200) rfl
  have h72_ : a54_ 2 1 = a53_ 2 1 := hf54_ 2 1 rfl
  have h73_ := iv_get hv53_ (k := 2) (j := 1) (l := 0) (u := 200) rfl
  have h74_ : a53_ 2 1 = a 2 1 := hf53_ 2 1 rfl
  have h75_ := iv_get hv54_ (k := 146) (j := 22) (l := 0) (u := 200) rfl
  have h76_ : a54_ 146 22 = a53_ 146 22 := hf54_ 146 22 rfl
  have h77_ := iv_get hv53_ (k := 146) (j := 22) (l := 0) (u := 200) rfl
  have h78_ : a53_ 146 22 = a 146 22 := hf53_ 146 22 rfl
  have h79_ := iv_get hv54_ (k := 105) (j := 5) (l := 0) (u := 10) rfl
  have h80_ : a54_ 105 5 = a53_ 105 5 := hf54_ 105 5 rfl
  have h81_ := iv_get hv53_ (k := 105) (j := 5) (l := 0) (u := 10) rfl
  have h82_ : a53_ 105 5 = a 105 5 := hf53_ 105 5 rfl
  have h83_ := iv_get hv54_ (k := 146) (j := 68) (l := 0) (u := 10) rfl
  have h84_ : a54_ 146 68 = a53_ 146 68 := hf54_ 146 68 rfl
  have h85_ := iv_get hv53_ (k := 146) (j := 68) (l := 0) (u := 10) rfl
  have h86_ : a53_ 146 68 = a 146 68 := hf53_ 146 68 rfl
  exact hnext a54_ b hv54_ (WFW_fr (WFW_fr hg0 hf53_ (fun _ => rfl) (fun _ => rfl)) hf54_ (fun _ => rfl) (fun _ => rfl)) (SV_fr (SV_fr hg1 hf53_ (fun _ => rfl) (fun _ => rfl)) hf54_ (fun _ => rfl) (fun _ => rfl)) (OC_fr (OC_fr hg2 hf53_ rfl rfl (fun _ => rfl) (fun _ => rfl) (fun _ => rfl) (fun _ => rfl) (fun _ => rfl)) hf54_ rfl rfl (fun _ => rfl) (fun _ => rfl) (fun _ => rfl) (fun _ => rfl) (fun _ => rfl)) (FO_fr (FO_fr hg3 hf53_ rfl rfl (fun _ => rfl)) hf54_ rfl rfl (fun _ => rfl)) (FW_fr (FW_fr hg4 hf53_ rfl (fun _ => rfl)) hf54_ rfl (fun _ => rfl)) (TAPE_fr (TAPE_fr hg5 hf53_ (fun _ => rfl) (fun _ => rfl)) hf54_ (fun _ => rfl) (fun _ => rfl)) (MEMR_fr (MEMR_fr hg6 hf53_ (fun _ => rfl) (fun _ => rfl) (fun _ => rfl) (fun _ => rfl) (fun _ => rfl) (fun _ => rfl) (fun _ => rfl) (fun _ => rfl) (fun _ => rfl) (fun _ => rfl)) hf54_ (fun _ => rfl) (fun _ => rfl) (fun _ => rfl) (fun _ => rfl) (fun _ => rfl) (fun _ => rfl) (fun _ => rfl) (fun _ => rfl) (fun _ => rfl) (fun _ => rfl)) hF54 (WISHR_fr (WISHR_fr hg8 hf53_ (fun _ => rfl) (fun _ => rfl) (fun _ => rfl) (fun _ => rfl)) hf54_ (fun _ => rfl) (fun _ => rfl) (fun _ => rfl) (fun _ => rfl)) (CIC_fr (CIC_fr hg9 hf53_ rfl rfl rfl rfl (fun _ => rfl) (fun _ => rfl) (fun _ => rfl) (fun _ => rfl) (fun _ => rfl) (fun _ => rfl) (fun _ => rfl) (fun _ => rfl) (fun _ => rfl) (fun _ => rfl)) hf54_ rfl rfl rfl rfl (fun _ => rfl) (fun _ => rfl) (fun _ => rfl) (fun _ => rfl) (fun _ => rfl) (fun _ => rfl) (fun _ => rfl) (fun _ => rfl) (fun _ => rfl) (fun _ => rfl)) (STR_fr (STR_fr hg10 hf53_ rfl rfl rfl (fun _ => rfl) (fun _ => rfl) rfl rfl (fun _ => rfl) (fun _ => rfl) (fun _ => rfl) (fun _ => rfl) (fun _ => rfl) (fun _ => rfl) (fun _ => rfl) (fun _ => rfl) (fun _ => rfl) (fun _ => rfl) (fun _ => rfl) rfl rfl (fun _ => rfl) (fun _ => rfl) (fun _ => rfl) (fun _ => rfl) (fun _ => rfl) (fun _ => rfl) rfl (fun _ => rfl) (fun _ => rfl) rfl rfl rfl rfl rfl rfl (fun _ => rfl) (fun _ => rfl) (fun _ => rfl) (fun _ => rfl) (fun _ => rfl) (fun _ => rfl) (fun _ => rfl) (fun _ => rfl) (fun _ => rfl) (fun _ => rfl) (fun _ => rfl) (fun _ => rfl) (fun _ => rfl) (fun _ => rfl) (fun _ => rfl) (fun _ => rfl) (fun _ => rfl) (fun _ => rfl) (fun _ => rfl) (fun _ => rfl)) hf54_ rfl rfl rfl (fun _ => rfl) (fun _ => rfl) rfl rfl (fun _ => rfl) (fun _ => rfl) (fun _ => rfl) (fun _ => rfl) (fun _ => rfl) (fun _ => rfl) (fun _ => rfl) (fun _ => rfl) (fun _ => rfl) (fun _ => rfl) (fun _ => rfl) rfl rfl (fun _ => rfl) (fun _ => rfl) (fun _ => rfl) (fun _ => rfl) (fun _ => rfl) (fun _ => rfl) rfl (fun _ => rfl) (fun _ => rfl) rfl rfl rfl rfl rfl rfl (fun _ => rfl) (fun _ => rfl) (fun _ => rfl) (fun _ => rfl) (fun _ => rfl) (fun _ => rfl) (fun _ => rfl) (fun _ => rfl) (fun _ => rfl) (fun _ => rfl) (fun _ => rfl) (fun _ => rfl) (fun _ => rfl) (fun _ => rfl) (fun _ => rfl) (fun _ => rfl) (fun _ => rfl) (fun _ => rfl) (fun _ => rfl) (fun _ => rfl)) (show a54_ 0 0 = a54_ 146 0 from by omega) (show a54_ 4 6 = a54_ 146 2 from by omega) (show a54_ 2 1 = a54_ 146 22 from by omega) (show a54_ 105 5 = a54_ 146 68 from by omega)
theorem lw_op246 (E : jxE) (d : Nat) (hd : Nat.ble 60 (d + 1) = true) (hL : E.1 ≤ 3072) (y3 : Int) (hy0 : 0 ≤ y3) (hy1 : y3 + 6 ≤ E.1) (hnext : ∀ (a b : Nat → Nat → Int) (hv : iv a) (hg0 : WFW a) (hg1 : SV a) (hg2 : OC a) (hg3 : FO a) (hg4 : FW a) (hg5 : TAPE a) (hg6 : MEMR a) (hg7 : FARR a) (hg8 : WISHR a) (hg9 : CIC a) (hg10 : STR a) (hr0 : a 0 0 = a 146 0) (hr1 : a 4 6 = a 146 2) (hr2 : a 2 1 = a 146 22) (hr3 : a 105 5 = a 146 68), jt (jxX E d 305 1189 [some (.inr (.inr (.inl 3000))), some (.inr (.inr (.inl 0))), some (.inr (.inr (.inl 146))), some (.inl y3)] [] (jxSH, a, b)) (fun v _ _ => v = [.inl 1])) (a b : Nat → Nat → Int) (hv : iv a) (hg0 : WFW a) (hg1 : SV a) (hg2 : OC a) (hg3 : FO a) (hg4 : FW a) (hg5 : TAPE a) (hg6 : MEMR a) (hg7 : FARR a) (hg8 : WISHR a) (hg9 : CIC a) (hg10 : STR a) (hr0 : a 0 0 = a 146 0) (hr1 : a 4 6 = a 146 2) (hr2 : a 2 1 = a 146 22) (hr3 : a 105 5 = a 146 68) : jt (jxX E d 305 246 [some (.inr (.inr (.inl 3000))), some (.inr (.inr (.inl 0))), some (.inr (.inr (.inl 146))), some (.inl y3)] [] (jxSH, a, b)) (fun v _ _ => v = [.inl 1]) := by
  refine jt_eq (bq_law_246 E d y3 a b) ?_
  have h87_ := iv_get hv (k := 0) (j := 0) (l := 0) (u := 1999) rfl
  have h88_ := iv_get hv (k := 146) (j := 0) (l := 0) (u := 1999) rfl
  have h89_ := iv_get hv (k := 4) (j := 6) (l := 0) (u := 40) rfl
  have h90_ := iv_get hv (k := 146) (j := 2) (l := 0) (u := 40) rfl
  have h91_ := iv_get hv (k := 2) (j := 1) (l := 0) (u := 200) rfl
  have h92_ := iv_get hv (k := 146) (j := 22) (l := 0) (u := 200) rfl
  have h93_ := iv_get hv (k := 105) (j := 5) (l := 0) (u := 10) rfl
  have h94_ := iv_get hv (k := 146) (j := 68) (l := 0) (u := 10) rfl
  have hBAS : BAS a := ⟨hv, hr0, hr1, hg6, hg7, hg8⟩
  have hring := AL_ring (b := b) (b2 := b) hBAS hg10 ((E.2 ((jxw (y3 + 1)).toNat))) ((E.2 ((jxw (y3 + 2)).toNat)))
  refine jt_bif (Nat.ble_eq_true_of_le (by omega)) ?_
  have h95_ : jxw (y3 + 1) = y3 + 1 := jxw_id (by omega) (by omega)
  refine jt_grd (by omega) ?_
  refine jt_bif (Nat.ble_eq_true_of_le (by omega)) ?_
  have h96_ : jxw (y3 + 2) = y3 + 2 := jxw_id (by omega) (by omega)
  refine jt_grd (by omega) ?_
  refine jt_bif (Nat.ble_eq_true_of_le (by omega)) ?_
  have h97_ : jxw (y3 + 3) = y3 + 3 := jxw_id (by omega) (by omega)
  refine jt_grd (by omega) ?_
  refine jt_bI (sp_X11_member E d (jd_le hd rfl) (E.2 ((jxw (y3 + 1)).toNat)) (E.2 ((jxw (y3 + 2)).toNat)) (E.2 ((jxw (y3 + 3)).toNat)) a b hv) (fun r98_ a98_ b98_ h98_ => ?_)
  obtain ⟨hv98_, hf98_, rfl, hq98_0, hq98_1, hq98_2⟩ := h98_
  have h99_ := iv_get hv98_ (k := 4) (j := 6) (l := 0) (u := 40) rfl
  refine jt_eq (bq_law_266 E d y3 a98_ b) ?_
  refine jt_bif (Nat.ble_eq_true_of_le (by omega)) ?_
  refine jt_grd (by omega) ?_
  refine jt_bif (Nat.ble_eq_true_of_le (by omega)) ?_
  refine jt_grd (by omega) ?_
  refine jt_bif (Nat.ble_eq_true_of_le (by omega)) ?_
  refine jt_grd (by omega) ?_
  refine jt_bI (sp_X12_member E d (jd_le hd rfl) (E.2 ((jxw (y3 + 1)).toNat)) (E.2 ((jxw (y3 + 2)).toNat)) (E.2 ((jxw (y3 + 3)).toNat)) a98_ b hv98_) (fun r100_ a100_ b100_ h100_ => ?_)
  obtain ⟨hv100_, hf100_, rfl, hq100_0, hq100_1, hq100_2⟩ := h100_
  have h101_ := iv_get hv98_ (k := 146) (j := 2) (l := 0) (u := 40) rfl
  have h102_ : a98_ 146 2 = a 146 2 := hf98_ 146 2 rfl
  have h103_ := iv_get hv100_ (k := 146) (j := 2) (l := 0) (u := 40) rfl
  have hM100 : MEMR a100_ := MEMR_add hg6 hq98_1 hq98_2 (fun j => ⟨hf98_ 148 j rfl, hf98_ 149 j rfl, hf98_ 150 j rfl, hf98_ 151 j rfl, hf98_ 152 j rfl⟩) hq100_1 hq100_2 (fun j => ⟨hf100_ 5 j rfl, hf100_ 6 j rfl, hf100_ 7 j rfl, hf100_ 8 j rfl, hf100_ 10 j rfl⟩) (by omega) (by rw [hf98_ 146 0 rfl]; exact hr0)
  have hS100 : STR a100_ := ST_on hg10 (CLS_fr hf98_ rfl) (RFS_fr hf100_ rfl) (KOF_fr hf98_ rfl) (KOFr_fr hf100_ rfl) (KFD_fr hf98_ rfl) (KFDr_fr hf100_ rfl) (KLS_fr hf98_ rfl) (KLSr_fr hf100_ rfl) (cvC_fr hf98_ rfl) (cvR_fr hf100_ rfl) (funext fun j => hf98_ 9 j rfl) (funext fun j => hf100_ 153 j rfl) (by omega) (by rw [hf98_ 0 0 rfl]; exact Int.le_refl _) (RLE_mk hg10.1.2.2.2.2 (CLS_fr hf98_ rfl) (RFS_fr hf100_ rfl) (funext fun j => hf98_ 56 j rfl) (funext fun j => hf100_ 171 j rfl))
  refine jt_eq (bq_law_286 E d y3 a100_ b) ?_
  have h104_ := iv_get hv100_ (k := 0) (j := 0) (l := 0) (u := 1999) rfl
  have h105_ : a100_ 0 0 = a98_ 0 0 := hf100_ 0 0 rfl
  have h106_ := iv_get hv98_ (k := 0) (j := 0) (l := 0) (u := 1999) rfl
  have h107_ : a98_ 0 0 = a 0 0 := hf98_ 0 0 rfl
  have h108_ := iv_get hv100_ (k := 146) (j := 0) (l := 0) (u := 1999) rfl
  have h109_ : a100_ 146 0 = a98_ 146 0 := hf100_ 146 0 rfl
  have h110_ := iv_get hv98_ (k := 146) (j := 0) (l := 0) (u := 1999) rfl
  have h111_ : a98_ 146 0 = a 146 0 := hf98_ 146 0 rfl
  have h112_ := iv_get hv100_ (k := 4) (j := 6) (l := 0) (u := 40) rfl
  have h113_ : a100_ 4 6 = a98_ 4 6 := hf100_ 4 6 rfl
  have h114_ := iv_get hv100_ (k := 2) (j := 1) (l := 0) (u := 200) rfl
  have h115_ : a100_ 2 1 = a98_ 2 1 := hf100_ 2 1 rfl
  have h116_ := iv_get hv98_ (k := 2) (j := 1) (l := 0) (u := 200) rfl
  have h117_ : a98_ 2 1 = a 2 1 := hf98_ 2 1 rfl
  have h118_ := iv_get hv100_ (k := 146) (j := 22) (l := 0) (u := 200) rfl
  have h119_ : a100_ 146 22 = a98_ 146 22 := hf100_ 146 22 rfl
  have h120_ := iv_get hv98_ (k := 146) (j := 22) (l := 0) (u := 200) rfl
  have h121_ : a98_ 146 22 = a 146 22 := hf98_ 146 22 rfl
  have h122_ := iv_get hv100_ (k := 105) (j := 5) (l := 0) (u := 10) rfl
  have h123_ : a100_ 105 5 = a98_ 105 5 := hf100_ 105 5 rfl
  have h124_ := iv_get hv98_ (k := 105) (j := 5) (l := 0) (u := 10) rfl
  have h125_ : a98_ 105 5 = a 105 5 := hf98_ 105 5 rfl
  have h126_ := iv_get hv100_ (k := 146) (j := 68) (l := 0) (u := 10) rfl
  have h127_ : a100_ 146 68 = a98_ 146 68 := hf100_ 146 68 rfl
  have h128_ := iv_get hv98_ (k := 146) (j := 68) (l := 0) (u := 10) rfl
  have h129_ : a98_ 146 68 = a 146 68 := hf98_ 146 68 rfl
  exact hnext a100_ b hv100_ (WFW_fr (WFW_fr hg0 hf98_ (fun _ => rfl) (fun _ => rfl)) hf100_ (fun _ => rfl) (fun _ => rfl)) (SV_fr (SV_fr hg1 hf98_ (fun _ => rfl) (fun _ => rfl)) hf100_ (fun _ => rfl) (fun _ => rfl)) (OC_fr (OC_fr hg2 hf98_ rfl rfl (fun _ => rfl) (fun _ => rfl) (fun _ => rfl) (fun _ => rfl) (fun _ => rfl)) hf100_ rfl rfl (fun _ => rfl) (fun _ => rfl) (fun _ => rfl) (fun _ => rfl) (fun _ => rfl)) (FO_fr (FO_fr hg3 hf98_ rfl rfl (fun _ => rfl)) hf100_ rfl rfl (fun _ => rfl)) (FW_fr (FW_fr hg4 hf98_ rfl (fun _ => rfl)) hf100_ rfl (fun _ => rfl)) (TAPE_fr (TAPE_fr hg5 hf98_ (fun _ => rfl) (fun _ => rfl)) hf100_ (fun _ => rfl) (fun _ => rfl)) hM100 (FARR_fr (FARR_fr hg7 hf98_ (fun _ => rfl) (fun _ => rfl)) hf100_ (fun _ => rfl) (fun _ => rfl)) (WISHR_fr (WISHR_fr hg8 hf98_ (fun _ => rfl) (fun _ => rfl) (fun _ => rfl) (fun _ => rfl)) hf100_ (fun _ => rfl) (fun _ => rfl) (fun _ => rfl) (fun _ => rfl)) hS100.1.2.2.1 hS100 (show a100_ 0 0 = a100_ 146 0 from by omega) (show a100_ 4 6 = a100_ 146 2 from by omega) (show a100_ 2 1 = a100_ 146 22 from by omega) (show a100_ 105 5 = a100_ 146 68 from by omega)
theorem lw_op289 (E : jxE) (d : Nat) (hd : Nat.ble 60 (d + 1) = true) (hL : E.1 ≤ 3072) (y3 : Int) (hy0 : 0 ≤ y3) (hy1 : y3 + 6 ≤ E.1) (hnext : ∀ (a b : Nat → Nat → Int) (hv : iv a) (hg0 : WFW a) (hg1 : SV a) (hg2 : OC a) (hg3 : FO a) (hg4 : FW a) (hg5 : TAPE a) (hg6 : MEMR a) (hg7 : FARR a) (hg8 : WISHR a) (hg9 : CIC a) (hg10 : STR a) (hr0 : a 0 0 = a 146 0) (hr1 : a 4 6 = a 146 2) (hr2 : a 2 1 = a 146 22) (hr3 : a 105 5 = a 146 68), jt (jxX E d 305 1189 [some (.inr (.inr (.inl 3000))), some (.inr (.inr (.inl 0))), some (.inr (.inr (.inl 146))), some (.inl y3)] [] (jxSH, a, b)) (fun v _ _ => v = [.inl 1])) (a b : Nat → Nat → Int) (hv : iv a) (hg0 : WFW a) (hg1 : SV a) (hg2 : OC a) (hg3 : FO a) (hg4 : FW a) (hg5 : TAPE a) (hg6 : MEMR a) (hg7 : FARR a) (hg8 : WISHR a) (hg9 : CIC a) (hg10 : STR a) (hr0 : a 0 0 = a 146 0) (hr1 : a 4 6 = a 146 2) (hr2 : a 2 1 = a 146 22) (hr3 : a 105 5 = a 146 68) : jt (jxX E d 305 289 [some (.inr (.inr (.inl 3000))), some (.inr (.inr (.inl 0))), some (.inr (.inr (.inl 146))), some (.inl y3)] [] (jxSH, a, b)) (fun v _ _ => v = [.inl 1]) := by
  refine jt_eq (bq_law_289 E d y3 a b) ?_
  have h130_ := iv_get hv (k := 0) (j := 0) (l := 0) (u := 1999) rfl
  have h131_ := iv_get hv (k := 146) (j := 0) (l := 0) (u := 1999) rfl
  have h132_ := iv_get hv (k := 4) (j := 6) (l := 0) (u := 40) rfl
  have h133_ := iv_get hv (k := 146) (j := 2) (l := 0) (u := 40) rfl
  have h134_ := iv_get hv (k := 2) (j := 1) (l := 0) (u := 200) rfl
  have h135_ := iv_get hv (k := 146) (j := 22) (l := 0) (u := 200) rfl
  have h136_ := iv_get hv (k := 105) (j := 5) (l := 0) (u := 10) rfl
  have h137_ := iv_get hv (k := 146) (j := 68) (l := 0) (u := 10) rfl
  have hBAS : BAS a := ⟨hv, hr0, hr1, hg6, hg7, hg8⟩
  have hring := AL_ring (b := b) (b2 := b) hBAS hg10 ((E.2 ((jxw (y3 + 1)).toNat))) ((E.2 ((jxw (y3 + 2)).toNat)))
  refine jt_bif (Nat.ble_eq_true_of_le (by omega)) ?_
  have h138_ : jxw (y3 + 1) = y3 + 1 := jxw_id (by omega) (by omega)
  refine jt_grd (by omega) ?_
  refine jt_bI (sp_X11_leave E d (jd_le hd rfl) (E.2 ((jxw (y3 + 1)).toNat)) a b hv hg9) (fun r139_ a139_ b139_ h139_ => ?_)
  obtain ⟨hv139_, hf139_, rfl, hq139_0, hq139_1, hq139_2, hq139_3, hq139_4, hq139_5⟩ := h139_
  refine jt_eq (bq_law_299 E d y3 a139_ b) ?_
  refine jt_bif (Nat.ble_eq_true_of_le (by omega)) ?_
  refine jt_grd (by omega) ?_
  refine jt_bI (sp_X12_leave E d (jd_le hd rfl) (E.2 ((jxw (y3 + 1)).toNat)) a139_ b hv139_ (OC_fr hg2 hf139_ rfl rfl (fun _ => rfl) (fun _ => rfl) (fun _ => rfl) (fun _ => rfl) (fun _ => rfl))) (fun r140_ a140_ b140_ h140_ => ?_)
  obtain ⟨hv140_, hf140_, rfl, hq140_0, hq140_1, hq140_2, hq140_3, hq140_4, hq140_5⟩ := h140_
  have h141_ := iv_get hv139_ (k := 146) (j := 2) (l := 0) (u := 40) rfl
  have h142_ : a139_ 146 2 = a 146 2 := hf139_ 146 2 rfl
  have hM140 : MEMR a140_ := MEMR_lv hg6 hr1 hq139_1 hq139_2 (fun j => ⟨hf139_ 5 j rfl, hf139_ 6 j rfl, hf139_ 7 j rfl, hf139_ 8 j rfl, hf139_ 5 j rfl⟩) (fun j => ⟨hf139_ 148 j rfl, hf139_ 149 j rfl, hf139_ 150 j rfl, hf139_ 151 j rfl, hf139_ 152 j rfl⟩) (hf139_ 146 2 rfl) hq140_2 hq140_3 (fun j => ⟨hf140_ 5 j rfl, hf140_ 6 j rfl, hf140_ 7 j rfl, hf140_ 8 j rfl, hf140_ 10 j rfl⟩) (fun j => ⟨hf140_ 148 j rfl, hf140_ 149 j rfl, hf140_ 150 j rfl, hf140_ 151 j rfl, hf140_ 148 j rfl⟩)
  have hL140 := ST_leave hBAS hg10 (CLS_fr hf139_ rfl) (RFS_fr hf140_ rfl) (KFD_fr hf139_ rfl) (KFDr_fr hf140_ rfl) (KB_fr hf139_ rfl rfl) (KBr_fr hf140_ rfl) (KLS_fr hf139_ rfl) (KLSr_fr hf140_ rfl) ⟨hf139_ 83 6 rfl, hf139_ 83 7 rfl⟩ ⟨(funext fun j => hf139_ 84 j rfl), (funext fun j => hf139_ 85 j rfl), (funext fun j => hf139_ 86 j rfl)⟩ ⟨hf140_ 146 49 rfl, hf140_ 146 55 rfl, (funext fun j => hf140_ 178 j rfl), (funext fun j => hf140_ 179 j rfl), (funext fun j => hf140_ 180 j rfl), (funext fun j => hf140_ 182 j rfl)⟩ hq139_4 hq139_5 hq140_4 hq140_5
  have hLr140 : r139_ = r140_ := hL140.1
  have hS140 : STR a140_ := hL140.2
  have h143_ := iv_get hv140_ (k := 0) (j := 0) (l := 0) (u := 1999) rfl
  have h144_ : a140_ 0 0 = a139_ 0 0 := hf140_ 0 0 rfl
  have h145_ := iv_get hv139_ (k := 0) (j := 0) (l := 0) (u := 1999) rfl
  have h146_ : a139_ 0 0 = a 0 0 := hf139_ 0 0 rfl
  have h147_ := iv_get hv140_ (k := 146) (j := 0) (l := 0) (u := 1999) rfl
  have h148_ : a140_ 146 0 = a139_ 146 0 := hf140_ 146 0 rfl
  have h149_ := iv_get hv139_ (k := 146) (j := 0) (l := 0) (u := 1999) rfl
  have h150_ : a139_ 146 0 = a 146 0 := hf139_ 146 0 rfl
  have h151_ := iv_get hv140_ (k := 4) (j := 6) (l := 0) (u := 40) rfl
  have h152_ : a140_ 4 6 = a139_ 4 6 := hf140_ 4 6 rfl
  have h153_ := iv_get hv139_ (k := 4) (j := 6) (l := 0) (u := 40) rfl
  have h154_ : a139_ 4 6 = a 4 6 := hf139_ 4 6 rfl
  have h155_ := iv_get hv140_ (k := 146) (j := 2) (l := 0) (u := 40) rfl
  have h156_ : a140_ 146 2 = a139_ 146 2 := hf140_ 146 2 rfl
  have h157_ := iv_get hv140_ (k := 2) (j := 1) (l := 0) (u := 200) rfl
  have h158_ : a140_ 2 1 = a139_ 2 1 := hf140_ 2 1 rfl
  have h159_ := iv_get hv139_ (k := 2) (j := 1) (l := 0) (u := 200) rfl
  have h160_ : a139_ 2 1 = a 2 1 := hf139_ 2 1 rfl
  have h161_ := iv_get hv140_ (k := 146) (j := 22) (l := 0) (u := 200) rfl
  have h162_ : a140_ 146 22 = a139_ 146 22 := hf140_ 146 22 rfl
  have h163_ := iv_get hv139_ (k := 146) (j := 22) (l := 0) (u := 200) rfl
  have h164_ : a139_ 146 22 = a 146 22 := hf139_ 146 22 rfl
  have h165_ := iv_get hv140_ (k := 105) (j := 5) (l := 0) (u := 10) rfl
  have h166_ : a140_ 105 5 = a139_ 105 5 := hf140_ 105 5 rfl
  have h167_ := iv_get hv139_ (k := 105) (j := 5) (l := 0) (u := 10) rfl
  have h168_ : a139_ 105 5 = a 105 5 := hf139_ 105 5 rfl
  have h169_ := iv_get hv140_ (k := 146) (j := 68) (l := 0) (u := 10) rfl
  have h170_ : a140_ 146 68 = a139_ 146 68 := hf140_ 146 68 rfl
  have h171_ := iv_get hv139_ (k := 146) (j := 68) (l := 0) (u := 10) rfl
  have h172_ : a139_ 146 68 = a 146 68 := hf139_ 146 68 rfl
  exact hnext a140_ b hv140_ (WFW_fr (WFW_fr hg0 hf139_ (fun _ => rfl) (fun _ => rfl)) hf140_ (fun _ => rfl) (fun _ => rfl)) (SV_fr (SV_fr hg1 hf139_ (fun _ => rfl) (fun _ => rfl)) hf140_ (fun _ => rfl) (fun _ => rfl)) hq140_0 (FO_fr (FO_fr hg3 hf139_ rfl rfl (fun _ => rfl)) hf140_ rfl rfl (fun _ => rfl)) (FW_fr (FW_fr hg4 hf139_ rfl (fun _ => rfl)) hf140_ rfl (fun _ => rfl)) (TAPE_fr (TAPE_fr hg5 hf139_ (fun _ => rfl) (fun _ => rfl)) hf140_ (fun _ => rfl) (fun _ => rfl)) hM140 (FARR_fr (FARR_fr hg7 hf139_ (fun _ => rfl) (fun _ => rfl)) hf140_ (fun _ => rfl) (fun _ => rfl)) (WISHR_fr (WISHR_fr hg8 hf139_ (fun _ => rfl) (fun _ => rfl) (fun _ => rfl) (fun _ => rfl)) hf140_ (fun _ => rfl) (fun _ => rfl) (fun _ => rfl) (fun _ => rfl)) hS140.1.2.2.1 hS140 (show a140_ 0 0 = a140_ 146 0 from by omega) (show a140_ 4 6 = a140_ 146 2 from by omega) (show a140_ 2 1 = a140_ 146 22 from by omega) (show a140_ 105 5 = a140_ 146 68 from by omega)
theorem lw_op312 (E : jxE) (d : Nat) (hd : Nat.ble 60 (d + 1) = true) (hL : E.1 ≤ 3072) (y3 : Int) (hy0 : 0 ≤ y3) (hy1 : y3 + 6 ≤ E.1) (hnext : ∀ (a b : Nat → Nat → Int) (hv : iv a) (hg0 : WFW a) (hg1 : SV a) (hg2 : OC a) (hg3 : FO a) (hg4 : FW a) (hg5 : TAPE a) (hg6 : MEMR a) (hg7 : FARR a) (hg8 : WISHR a) (hg9 : CIC a) (hg10 : STR a) (hr0 : a 0 0 = a 146 0) (hr1 : a 4 6 = a 146 2) (hr2 : a 2 1 = a 146 22) (hr3 : a 105 5 = a 146 68), jt (jxX E d 305 1189 [some (.inr (.inr (.inl 3000))), some (.inr (.inr (.inl 0))), some (.inr (.inr (.inl 146))), some (.inl y3)] [] (jxSH, a, b)) (fun v _ _ => v = [.inl 1])) (a b : Nat → Nat → Int) (hv : iv a) (hg0 : WFW a) (hg1 : SV a) (hg2 : OC a) (hg3 : FO a) (hg4 : FW a) (hg5 : TAPE a) (hg6 : MEMR a) (hg7 : FARR a) (hg8 : WISHR a) (hg9 : CIC a) (hg10 : STR a) (hr0 : a 0 0 = a 146 0) (hr1 : a 4 6 = a 146 2) (hr2 : a 2 1 = a 146 22) (hr3 : a 105 5 = a 146 68) : jt (jxX E d 305 312 [some (.inr (.inr (.inl 3000))), some (.inr (.inr (.inl 0))), some (.inr (.inr (.inl 146))), some (.inl y3)] [] (jxSH, a, b)) (fun v _ _ => v = [.inl 1]) := by
  refine jt_eq (bq_law_312 E d y3 a b) ?_
  have h173_ := iv_get hv (k := 0) (j := 0) (l := 0) (u := 1999) rfl
  have h174_ := iv_get hv (k := 146) (j := 0) (l := 0) (u := 1999) rfl
  have h175_ := iv_get hv (k := 4) (j := 6) (l := 0) (u := 40) rfl
  have h176_ := iv_get hv (k := 146) (j := 2) (l := 0) (u := 40) rfl
  have h177_ := iv_get hv (k := 2) (j := 1) (l := 0) (u := 200) rfl
  have h178_ := iv_get hv (k := 146) (j := 22) (l := 0) (u := 200) rfl
  have h179_ := iv_get hv (k := 105) (j := 5) (l := 0) (u := 10) rfl
  have h180_ := iv_get hv (k := 146) (j := 68) (l := 0) (u := 10) rfl
  have hBAS : BAS a := ⟨hv, hr0, hr1, hg6, hg7, hg8⟩
  have hring := AL_ring (b := b) (b2 := b) hBAS hg10 ((E.2 ((jxw (y3 + 1)).toNat))) ((E.2 ((jxw (y3 + 2)).toNat)))
  refine jt_bif (Nat.ble_eq_true_of_le (by omega)) ?_
  have h181_ : jxw (y3 + 1) = y3 + 1 := jxw_id (by omega) (by omega)
  refine jt_grd (by omega) ?_
  refine jt_bif (Nat.ble_eq_true_of_le (by omega)) ?_
  have h182_ : jxw (y3 + 2) = y3 + 2 := jxw_id (by omega) (by omega)
  refine jt_grd (by omega) ?_
  refine jt_bif (Nat.ble_eq_true_of_le (by omega)) ?_
  have h183_ : jxw (y3 + 3) = y3 + 3 := jxw_id (by omega) (by omega)
  refine jt_grd (by omega) ?_
  refine jt_bif (Nat.ble_eq_true_of_le (by omega)) ?_
  have h184_ : jxw (y3 + 4) = y3 + 4 := jxw_id (by omega) (by omega)
  refine jt_grd (by omega) ?_
  refine jt_bif (Nat.ble_eq_true_of_le (by omega)) ?_
  have h185_ : jxw (y3 + 5) = y3 + 5 := jxw_id (by omega) (by omega)
  refine jt_grd (by omega) ?_
  refine jt_bI (sp_X11_feed E d (jd_le hd rfl) (E.2 ((jxw (y3 + 1)).toNat)) (E.2 ((jxw (y3 + 2)).toNat)) (E.2 ((jxw (y3 + 3)).toNat)) (E.2 ((jxw (y3 + 4)).toNat)) (E.2 ((jxw (y3 + 5)).toNat)) a b hv) (fun r186_ a186_ b186_ h186_ => ?_)
  obtain ⟨hv186_, hf186_, rfl, hq186_0, hq186_1, hq186_2⟩ := h186_
  have h187_ := iv_get hv186_ (k := 2) (j := 1) (l := 0) (u := 200) rfl
  refine jt_eq (bq_law_342 E d y3 a186_ b) ?_
  refine jt_bif (Nat.ble_eq_true_of_le (by omega)) ?_
  refine jt_grd (by omega) ?_
  refine jt_bif (Nat.ble_eq_true_of_le (by omega)) ?_
  refine jt_grd (by omega) ?_
  refine jt_bif (Nat.ble_eq_true_of_le (by omega)) ?_
  refine jt_grd (by omega) ?_
  refine jt_bif (Nat.ble_eq_true_of_le (by omega)) ?_
  refine jt_grd (by omega) ?_
  refine jt_bif (Nat.ble_eq_true_of_le (by omega)) ?_
  refine jt_grd (by omega) ?_
  refine jt_bI (sp_X12_feed E d (jd_le hd rfl) (E.2 ((jxw (y3 + 1)).toNat)) (E.2 ((jxw (y3 + 2)).toNat)) (E.2 ((jxw (y3 + 3)).toNat)) (E.2 ((jxw (y3 + 4)).toNat)) (E.2 ((jxw (y3 + 5)).toNat)) a186_ b hv186_) (fun r188_ a188_ b188_ h188_ => ?_)
  obtain ⟨hv188_, hf188_, rfl, hq188_0, hq188_1, hq188_2⟩ := h188_
  have h189_ := iv_get hv186_ (k := 146) (j := 22) (l := 0) (u := 200) rfl
  have h190_ : a186_ 146 22 = a 146 22 := hf186_ 146 22 rfl
  have h191_ := iv_get hv188_ (k := 146) (j := 22) (l := 0) (u := 200) rfl
  have hT188 : TAPE a188_ := TAPE_feed hg5 hr2 hq186_1 hq186_2 (fun j => hf186_ 164 j rfl) (hf186_ 146 22 rfl) hq188_1 hq188_2 (fun j => hf188_ 3 j rfl)
  refine jt_eq (bq_law_372 E d y3 a188_ b) ?_
  have h192_ := iv_get hv188_ (k := 0) (j := 0) (l := 0) (u := 1999) rfl
  have h193_ : a188_ 0 0 = a186_ 0 0 := hf188_ 0 0 rfl
  have h194_ := iv_get hv186_ (k := 0) (j := 0) (l := 0) (u := 1999) rfl
  have h195_ : a186_ 0 0 = a 0 0 := hf186_ 0 0 rfl
  have h196_ := iv_get hv188_ (k := 146) (j := 0) (l := 0) (u := 1999) rfl
  have h197_ : a188_ 146 0 = a186_ 146 0 := hf188_ 146 0 rfl
  have h198_ := iv_get hv186_ (k := 146) (j := 0) (l := 0) (u := 1999) rfl
  have h199_ : a186_ 146 0 = a 146 0 := hf186_ 146 0 rfl
  have h200_ := iv_get hv188_ (k := 4) (j := 6) (l := 0) (u := 40) rfl
  have h201_ : a188_ 4 6 = a186_ 4 6 := hf188_ 4 6 rfl
  have h202_ := iv_get hv186_ (k := 4) (j := 6) (l := 0) (u := 40) rfl
  have h203_ : a186_ 4 6 = a 4 6 := hf186_ 4 6 rfl
  have h204_ := iv_get hv188_ (k := 146) (j := 2) (l := 0) (u := 40) rfl
  have h205_ : a188_ 146 2 = a186_ 146 2 := hf188_ 146 2 rfl
  have h206_ := iv_get hv186_ (k := 146) (j := 2) (l := 0) (u := 40) rfl
  have h207_ : a186_ 146 2 = a 146 2 := hf186_ 146 2 rfl
  have h208_ := iv_get hv188_ (k := 2) (j := 1) (l := 0) (u := 200) rfl
  have h209_ : a188_ 2 1 = a186_ 2 1 := hf188_ 2 1 rfl
  have h210_ := iv_get hv188_ (k := 105) (j := 5) (l := 0) (u := 10) rfl
  have h211_ : a188_ 105 5 = a186_ 105 5 := hf188_ 105 5 rfl
  have h212_ := iv_get hv186_ (k := 105) (j := 5) (l := 0) (u := 10) rfl
  have h213_ : a186_ 105 5 = a 105 5 := hf186_ 105 5 rfl
  have h214_ := iv_get hv188_ (k := 146) (j := 68) (l := 0) (u := 10) rfl
  have h215_ : a188_ 146 68 = a186_ 146 68 := hf188_ 146 68 rfl
  have h216_ := iv_get hv186_ (k := 146) (j := 68) (l := 0) (u := 10) rfl
  have h217_ : a186_ 146 68 = a 146 68 := hf186_ 146 68 rfl
  exact hnext a188_ b hv188_ (WFW_fr (WFW_fr hg0 hf186_ (fun _ => rfl) (fun _ => rfl)) hf188_ (fun _ => rfl) (fun _ => rfl)) (SV_fr (SV_fr hg1 hf186_ (fun _ => rfl) (fun _ => rfl)) hf188_ (fun _ => rfl) (fun _ => rfl)) (OC_fr (OC_fr hg2 hf186_ rfl rfl (fun _ => rfl) (fun _ => rfl) (fun _ => rfl) (fun _ => rfl) (fun _ => rfl)) hf188_ rfl rfl (fun _ => rfl) (fun _ => rfl) (fun _ => rfl) (fun _ => rfl) (fun _ => rfl)) (FO_fr (FO_fr hg3 hf186_ rfl rfl (fun _ => rfl)) hf188_ rfl rfl (fun _ => rfl)) (FW_fr (FW_fr hg4 hf186_ rfl (fun _ => rfl)) hf188_ rfl (fun _ => rfl)) hT188 (MEMR_fr (MEMR_fr hg6 hf186_ (fun _ => rfl) (fun _ => rfl) (fun _ => rfl) (fun _ => rfl) (fun _ => rfl) (fun _ => rfl) (fun _ => rfl) (fun _ => rfl) (fun _ => rfl) (fun _ => rfl)) hf188_ (fun _ => rfl) (fun _ => rfl) (fun _ => rfl) (fun _ => rfl) (fun _ => rfl) (fun _ => rfl) (fun _ => rfl) (fun _ => rfl) (fun _ => rfl) (fun _ => rfl)) (FARR_fr (FARR_fr hg7 hf186_ (fun _ => rfl) (fun _ => rfl)) hf188_ (fun _ => rfl) (fun _ => rfl)) (WISHR_fr (WISHR_fr hg8 hf186_ (fun _ => rfl) (fun _ => rfl) (fun _ => rfl) (fun _ => rfl)) hf188_ (fun _ => rfl) (fun _ => rfl) (fun _ => rfl) (fun _ => rfl)) (CIC_fr (CIC_fr hg9 hf186_ rfl rfl rfl rfl (fun _ => rfl) (fun _ => rfl) (fun _ => rfl) (fun _ => rfl) (fun _ => rfl) (fun _ => rfl) (fun _ => rfl) (fun _ => rfl) (fun _ => rfl) (fun _ => rfl)) hf188_ rfl rfl rfl rfl (fun _ => rfl) (fun _ => rfl) (fun _ => rfl) (fun _ => rfl) (fun _ => rfl) (fun _ => rfl) (fun _ => rfl) (fun _ => rfl) (fun _ => rfl) (fun _ => rfl)) (STR_fr (STR_fr hg10 hf186_ rfl rfl rfl (fun _ => rfl) (fun _ => rfl) rfl rfl (fun _ => rfl) (fun _ => rfl) (fun _ => rfl) (fun _ => rfl) (fun _ => rfl) (fun _ => rfl) (fun _ => rfl) (fun _ => rfl) (fun _ => rfl) (fun _ => rfl) (fun _ => rfl) rfl rfl (fun _ => rfl) (fun _ => rfl) (fun _ => rfl) (fun _ => rfl) (fun _ => rfl) (fun _ => rfl) rfl (fun _ => rfl) (fun _ => rfl) rfl rfl rfl rfl rfl rfl (fun _ => rfl) (fun _ => rfl) (fun _ => rfl) (fun _ => rfl) (fun _ => rfl) (fun _ => rfl) (fun _ => rfl) (fun _ => rfl) (fun _ => rfl) (fun _ => rfl) (fun _ => rfl) (fun _ => rfl) (fun _ => rfl) (fun _ => rfl) (fun _ => rfl) (fun _ => rfl) (fun _ => rfl) (fun _ => rfl) (fun _ => rfl) (fun _ => rfl)) hf188_ rfl rfl rfl (fun _ => rfl) (fun _ => rfl) rfl rfl (fun _ => rfl) (fun _ => rfl) (fun _ => rfl) (fun _ => rfl) (fun _ => rfl) (fun _ => rfl) (fun _ => rfl) (fun _ => rfl) (fun _ => rfl) (fun _ => rfl) (fun _ => rfl) rfl rfl (fun _ => rfl) (fun _ => rfl) (fun _ => rfl) (fun _ => rfl) (fun _ => rfl) (fun _ => rfl) rfl (fun _ => rfl) (fun _ => rfl) rfl rfl rfl rfl rfl rfl (fun _ => rfl) (fun _ => rfl) (fun _ => rfl) (fun _ => rfl) (fun _ => rfl) (fun _ => rfl) (fun _ => rfl) (fun _ => rfl) (fun _ => rfl) (fun _ => rfl) (fun _ => rfl) (fun _ => rfl) (fun _ => rfl) (fun _ => rfl) (fun _ => rfl) (fun _ => rfl) (fun _ => rfl) (fun _ => rfl) (fun _ => rfl) (fun _ => rfl)) (show a188_ 0 0 = a188_ 146 0 from by omega) (show a188_ 4 6 = a188_ 146 2 from by omega) (show a188_ 2 1 = a188_ 146 22 from by omega) (show a188_ 105 5 = a188_ 146 68 from by omega)
theorem lw_op375 (E : jxE) (d : Nat) (hd : Nat.ble 60 (d + 1) = true) (hL : E.1 ≤ 3072) (y3 : Int) (hy0 : 0 ≤ y3) (hy1 : y3 + 6 ≤ E.1) (hnext : ∀ (a b : Nat → Nat → Int) (hv : iv a) (hg0 : WFW a) (hg1 : SV a) (hg2 : OC a) (hg3 : FO a) (hg4 : FW a) (hg5 : TAPE a) (hg6 : MEMR a) (hg7 : FARR a) (hg8 : WISHR a) (hg9 : CIC a) (hg10 : STR a) (hr0 : a 0 0 = a 146 0) (hr1 : a 4 6 = a 146 2) (hr2 : a 2 1 = a 146 22) (hr3 : a 105 5 = a 146 68), jt (jxX E d 305 1189 [some (.inr (.inr (.inl 3000))), some (.inr (.inr (.inl 0))), some (.inr (.inr (.inl 146))), some (.inl y3)] [] (jxSH, a, b)) (fun v _ _ => v = [.inl 1])) (a b : Nat → Nat → Int) (hv : iv a) (hg0 : WFW a) (hg1 : SV a) (hg2 : OC a) (hg3 : FO a) (hg4 : FW a) (hg5 : TAPE a) (hg6 : MEMR a) (hg7 : FARR a) (hg8 : WISHR a) (hg9 : CIC a) (hg10 : STR a) (hr0 : a 0 0 = a 146 0) (hr1 : a 4 6 = a 146 2) (hr2 : a 2 1 = a 146 22) (hr3 : a 105 5 = a 146 68) : jt (jxX E d 305 375 [some (.inr (.inr (.inl 3000))), some (.inr (.inr (.inl 0))), some (.inr (.inr (.inl 146))), some (.inl y3)] [] (jxSH, a, b)) (fun v _ _ => v = [.inl 1]) := by
  refine jt_eq (bq_law_375 E d y3 a b) ?_
  have h218_ := iv_get hv (k := 0) (j := 0) (l := 0) (u := 1999) rfl
  have h219_ := iv_get hv (k := 146) (j := 0) (l := 0) (u := 1999) rfl
  have h220_ := iv_get hv (k := 4) (j := 6) (l := 0) (u := 40) rfl
  have h221_ := iv_get hv (k := 146) (j := 2) (l := 0) (u := 40) rfl
  have h222_ := iv_get hv (k := 2) (j := 1) (l := 0) (u := 200) rfl
  have h223_ := iv_get hv (k := 146) (j := 22) (l := 0) (u := 200) rfl
  have h224_ := iv_get hv (k := 105) (j := 5) (l := 0) (u := 10) rfl
  have h225_ := iv_get hv (k := 146) (j := 68) (l := 0) (u := 10) rfl
  have hBAS : BAS a := ⟨hv, hr0, hr1, hg6, hg7, hg8⟩
  have hring := AL_ring (b := b) (b2 := b) hBAS hg10 ((E.2 ((jxw (y3 + 1)).toNat))) ((E.2 ((jxw (y3 + 2)).toNat)))
  refine jt_bif (Nat.ble_eq_true_of_le (by omega)) ?_
  have h226_ : jxw (y3 + 1) = y3 + 1 := jxw_id (by omega) (by omega)
  refine jt_grd (by omega) ?_
  refine jt_bI (sp_X11_end E d (jd_le hd rfl) (E.2 ((jxw (y3 + 1)).toNat)) a b hv) (fun r227_ a227_ b227_ h227_ => ?_)
  obtain ⟨hv227_, hf227_, rfl, hq227_0⟩ := h227_
  have h228_ := iv_get hv227_ (k := 2) (j := 1) (l := 0) (u := 200) rfl
  refine jt_eq (bq_law_385 E d y3 a227_ b) ?_
  refine jt_bif (Nat.ble_eq_true_of_le (by omega)) ?_
  refine jt_grd (by omega) ?_
  refine jt_bI (sp_X12_end E d (jd_le hd rfl) (E.2 ((jxw (y3 + 1)).toNat)) a227_ b hv227_) (fun r229_ a229_ b229_ h229_ => ?_)
  obtain ⟨hv229_, hf229_, rfl, hq229_0⟩ := h229_
  have h230_ := iv_get hv227_ (k := 146) (j := 22) (l := 0) (u := 200) rfl
  have h231_ : a227_ 146 22 = a 146 22 := hf227_ 146 22 rfl
  have h232_ := iv_get hv229_ (k := 146) (j := 22) (l := 0) (u := 200) rfl
  have h233_ := iv_get hv229_ (k := 0) (j := 0) (l := 0) (u := 1999) rfl
  have h234_ : a229_ 0 0 = a227_ 0 0 := hf229_ 0 0 rfl
  have h235_ := iv_get hv227_ (k := 0) (j := 0) (l := 0) (u := 1999) rfl
  have h236_ : a227_ 0 0 = a 0 0 := hf227_ 0 0 rfl
  have h237_ := iv_get hv229_ (k := 146) (j := 0) (l := 0) (u := 1999) rfl
  have h238_ : a229_ 146 0 = a227_ 146 0 := hf229_ 146 0 rfl
  have h239_ := iv_get hv227_ (k := 146) (j := 0) (l := 0) (u := 1999) rfl
  have h240_ : a227_ 146 0 = a 146 0 := hf227_ 146 0 rfl
  have h241_ := iv_get hv229_ (k := 4) (j := 6) (l := 0) (u := 40) rfl
  have h242_ : a229_ 4 6 = a227_ 4 6 := hf229_ 4 6 rfl
  have h243_ := iv_get hv227_ (k := 4) (j := 6) (l := 0) (u := 40) rfl
  have h244_ : a227_ 4 6 = a 4 6 := hf227_ 4 6 rfl
  have h245_ := iv_get hv229_ (k := 146) (j := 2) (l := 0) (u := 40) rfl
  have h246_ : a229_ 146 2 = a227_ 146 2 := hf229_ 146 2 rfl
  have h247_ := iv_get hv227_ (k := 146) (j := 2) (l := 0) (u := 40) rfl
  have h248_ : a227_ 146 2 = a 146 2 := hf227_ 146 2 rfl
  have h249_ := iv_get hv229_ (k := 2) (j := 1) (l := 0) (u := 200) rfl
  have h250_ : a229_ 2 1 = a227_ 2 1 := hf229_ 2 1 rfl
  have h251_ := iv_get hv229_ (k := 105) (j := 5) (l := 0) (u := 10) rfl
  have h252_ : a229_ 105 5 = a227_ 105 5 := hf229_ 105 5 rfl
  have h253_ := iv_get hv227_ (k := 105) (j := 5) (l := 0) (u := 10) rfl
  have h254_ : a227_ 105 5 = a 105 5 := hf227_ 105 5 rfl
  have h255_ := iv_get hv229_ (k := 146) (j := 68) (l := 0) (u := 10) rfl
  have h256_ : a229_ 146 68 = a227_ 146 68 := hf229_ 146 68 rfl
  have h257_ := iv_get hv227_ (k := 146) (j := 68) (l := 0) (u := 10) rfl
  have h258_ : a227_ 146 68 = a 146 68 := hf227_ 146 68 rfl
  exact hnext a229_ b hv229_ (WFW_fr (WFW_fr hg0 hf227_ (fun _ => rfl) (fun _ => rfl)) hf229_ (fun _ => rfl) (fun _ => rfl)) (SV_fr (SV_fr hg1 hf227_ (fun _ => rfl) (fun _ => rfl)) hf229_ (fun _ => rfl) (fun _ => rfl)) (OC_fr (OC_fr hg2 hf227_ rfl rfl (fun _ => rfl) (fun _ => rfl) (fun _ => rfl) (fun _ => rfl) (fun _ => rfl)) hf229_ rfl rfl (fun _ => rfl) (fun _ => rfl) (fun _ => rfl) (fun _ => rfl) (fun _ => rfl)) (FO_fr (FO_fr hg3 hf227_ rfl rfl (fun _ => rfl)) hf229_ rfl rfl (fun _ => rfl)) (FW_fr (FW_fr hg4 hf227_ rfl (fun _ => rfl)) hf229_ rfl (fun _ => rfl)) (TAPE_fr (TAPE_fr hg5 hf227_ (fun _ => rfl) (fun _ => rfl)) hf229_ (fun _ => rfl) (fun _ => rfl)) (MEMR_fr (MEMR_fr hg6 hf227_ (fun _ => rfl) (fun _ => rfl) (fun _ => rfl) (fun _ => rfl) (fun _ => rfl) (fun _ => rfl) (fun _ => rfl) (fun _ => rfl) (fun _ => rfl) (fun _ => rfl)) hf229_ (fun _ => rfl) (fun _ => rfl) (fun _ => rfl) (fun _ => rfl) (fun _ => rfl) (fun _ => rfl) (fun _ => rfl) (fun _ => rfl) (fun _ => rfl) (fun _ => rfl)) (FARR_fr (FARR_fr hg7 hf227_ (fun _ => rfl) (fun _ => rfl)) hf229_ (fun _ => rfl) (fun _ => rfl)) (WISHR_fr (WISHR_fr hg8 hf227_ (fun _ => rfl) (fun _ => rfl) (fun _ => rfl) (fun _ => rfl)) hf229_ (fun _ => rfl) (fun _ => rfl) (fun _ => rfl) (fun _ => rfl)) (CIC_fr (CIC_fr hg9 hf227_ rfl rfl rfl rfl (fun _ => rfl) (fun _ => rfl) (fun _ => rfl) (fun _ => rfl) (fun _ => rfl) (fun _ => rfl) (fun _ => rfl) (fun _ => rfl) (fun _ => rfl) (fun _ => rfl)) hf229_ rfl rfl rfl rfl (fun _ => rfl) (fun _ => rfl) (fun _ => rfl) (fun _ => rfl) (fun _ => rfl) (fun _ => rfl) (fun _ => rfl) (fun _ => rfl) (fun _ => rfl) (fun _ => rfl)) (STR_fr (STR_fr hg10 hf227_ rfl rfl rfl (fun _ => rfl) (fun _ => rfl) rfl rfl (fun _ => rfl) (fun _ => rfl) (fun _ => rfl) (fun _ => rfl) (fun _ => rfl) (fun _ => rfl) (fun _ => rfl) (fun _ => rfl) (fun _ => rfl) (fun _ => rfl) (fun _ => rfl) rfl rfl (fun _ => rfl) (fun _ => rfl) (fun _ => rfl) (fun _ => rfl) (fun _ => rfl) (fun _ => rfl) rfl (fun _ => rfl) (fun _ => rfl) rfl rfl rfl rfl rfl rfl (fun _ => rfl) (fun _ => rfl) (fun _ => rfl) (fun _ => rfl) (fun _ => rfl) (fun _ => rfl) (fun _ => rfl) (fun _ => rfl) (fun _ => rfl) (fun _ => rfl) (fun _ => rfl) (fun _ => rfl) (fun _ => rfl) (fun _ => rfl) (fun _ => rfl) (fun _ => rfl) (fun _ => rfl) (fun _ => rfl) (fun _ => rfl) (fun _ => rfl)) hf229_ rfl rfl rfl (fun _ => rfl) (fun _ => rfl) rfl rfl (fun _ => rfl) (fun _ => rfl) (fun _ => rfl) (fun _ => rfl) (fun _ => rfl) (fun _ => rfl) (fun _ => rfl) (fun _ => rfl) (fun _ => rfl) (fun _ => rfl) (fun _ => rfl) rfl rfl (fun _ => rfl) (fun _ => rfl) (fun _ => rfl) (fun _ => rfl) (fun _ => rfl) (fun _ => rfl) rfl (fun _ => rfl) (fun _ => rfl) rfl rfl rfl rfl rfl rfl (fun _ => rfl) (fun _ => rfl) (fun _ => rfl) (fun _ => rfl) (fun _ => rfl) (fun _ => rfl) (fun _ => rfl) (fun _ => rfl) (fun _ => rfl) (fun _ => rfl) (fun _ => rfl) (fun _ => rfl) (fun _ => rfl) (fun _ => rfl) (fun _ => rfl) (fun _ => rfl) (fun _ => rfl) (fun _ => rfl) (fun _ => rfl) (fun _ => rfl)) (show a229_ 0 0 = a229_ 146 0 from by omega) (show a229_ 4 6 = a229_ 146 2 from by omega) (show a229_ 2 1 = a229_ 146 22 from by omega) (show a229_ 105 5 = a229_ 146 68 from by omega)
theorem lw_op398 (E : jxE) (d : Nat) (hd : Nat.ble 60 (d + 1) = true) (hL : E.1 ≤ 3072) (y3 : Int) (hy0 : 0 ≤ y3) (hy1 : y3 + 6 ≤ E.1) (hnext : ∀ (a b : Nat → Nat → Int) (hv : iv a) (hg0 : WFW a) (hg1 : SV a) (hg2 : OC a) (hg3 : FO a) (hg4 : FW a) (hg5 : TAPE a) (hg6 : MEMR a) (hg7 : FARR a) (hg8 : WISHR a) (hg9 : CIC a) (hg10 : STR a) (hr0 : a 0 0 = a 146 0) (hr1 : a 4 6 = a 146 2) (hr2 : a 2 1 = a 146 22) (hr3 : a 105 5 = a 146 68), jt (jxX E d 305 1189 [some (.inr (.inr (.inl 3000))), some (.inr (.inr (.inl 0))), some (.inr (.inr (.inl 146))), some (.inl y3)] [] (jxSH, a, b)) (fun v _ _ => v = [.inl 1])) (a b : Nat → Nat → Int) (hv : iv a) (hg0 : WFW a) (hg1 : SV a) (hg2 : OC a) (hg3 : FO a) (hg4 : FW a) (hg5 : TAPE a) (hg6 : MEMR a) (hg7 : FARR a) (hg8 : WISHR a) (hg9 : CIC a) (hg10 : STR a) (hr0 : a 0 0 = a 146 0) (hr1 : a 4 6 = a 146 2) (hr2 : a 2 1 = a 146 22) (hr3 : a 105 5 = a 146 68) : jt (jxX E d 305 398 [some (.inr (.inr (.inl 3000))), some (.inr (.inr (.inl 0))), some (.inr (.inr (.inl 146))), some (.inl y3)] [] (jxSH, a, b)) (fun v _ _ => v = [.inl 1]) := by
  refine jt_eq (bq_law_398 E d y3 a b) ?_
  have h259_ := iv_get hv (k := 0) (j := 0) (l := 0) (u := 1999) rfl
  have h260_ := iv_get hv (k := 146) (j := 0) (l := 0) (u := 1999) rfl
  have h261_ := iv_get hv (k := 4) (j := 6) (l := 0) (u := 40) rfl
  have h262_ := iv_get hv (k := 146) (j := 2) (l := 0) (u := 40) rfl
  have h263_ := iv_get hv (k := 2) (j := 1) (l := 0) (u := 200) rfl
  have h264_ := iv_get hv (k := 146) (j := 22) (l := 0) (u := 200) rfl
  have h265_ := iv_get hv (k := 105) (j := 5) (l := 0) (u := 10) rfl
  have h266_ := iv_get hv (k := 146) (j := 68) (l := 0) (u := 10) rfl
  have hBAS : BAS a := ⟨hv, hr0, hr1, hg6, hg7, hg8⟩
  have hring := AL_ring (b := b) (b2 := b) hBAS hg10 ((E.2 ((jxw (y3 + 1)).toNat))) ((E.2 ((jxw (y3 + 2)).toNat)))
  refine jt_bif (Nat.ble_eq_true_of_le (by omega)) ?_
  have h267_ : jxw (y3 + 1) = y3 + 1 := jxw_id (by omega) (by omega)
  refine jt_grd (by omega) ?_
  refine jt_bI (sp_X11_wish E d (jd_le hd rfl) (E.2 ((jxw (y3 + 1)).toNat)) a b hv) (fun r268_ a268_ b268_ h268_ => ?_)
  obtain ⟨hv268_, hf268_, rfl, hq268_0, hq268_1, hq268_2, hq268_3, hq268_4, hq268_5⟩ := h268_
  have h269_ := iv_get hv268_ (k := 2) (j := 1) (l := 0) (u := 200) rfl
  refine jt_eq (bq_law_408 E d y3 a268_ b) ?_
  refine jt_bif (Nat.ble_eq_true_of_le (by omega)) ?_
  refine jt_grd (by omega) ?_
  refine jt_bI (sp_X12_wish E d (jd_le hd rfl) (E.2 ((jxw (y3 + 1)).toNat)) a268_ b hv268_ (WFW_fr hg0 hf268_ (fun _ => rfl) (fun _ => rfl))) (fun r270_ a270_ b270_ h270_ => ?_)
  obtain ⟨hv270_, hf270_, rfl, hq270_0, hq270_1, hq270_2, hq270_3, hq270_4, hq270_5, hq270_6⟩ := h270_
  have h271_ := iv_get hv268_ (k := 146) (j := 2) (l := 0) (u := 40) rfl
  have h272_ : a268_ 146 2 = a 146 2 := hf268_ 146 2 rfl
  have h273_ := iv_get hv268_ (k := 146) (j := 22) (l := 0) (u := 200) rfl
  have h274_ : a268_ 146 22 = a 146 22 := hf268_ 146 22 rfl
  have h275_ := iv_get hv270_ (k := 146) (j := 22) (l := 0) (u := 200) rfl
  have hW270 : WISHR a270_ := WISH_law hg8 hg5 hr2 hr1 (iv_get hv (k := 4) (j := 6) (l := 0) (u := 40) rfl).2 hq268_5 hq270_6 ⟨fun j => hf268_ 166 j rfl, fun j => hf268_ 167 j rfl⟩ (fun j => hf268_ 164 j rfl) (hf268_ 146 22 rfl) (hf268_ 146 2 rfl) ⟨fun j => hf270_ 12 j rfl, fun j => hf270_ 53 j rfl⟩ (fun j => (iv_get hv (k := 53) (j := j) (l := 0) (u := 40) rfl).2) (fun j => (iv_get hv (k := 167) (j := j) (l := 0) (u := 64) rfl).2)
  have h276_ := iv_get hv270_ (k := 0) (j := 0) (l := 0) (u := 1999) rfl
  have h277_ : a270_ 0 0 = a268_ 0 0 := hf270_ 0 0 rfl
  have h278_ := iv_get hv268_ (k := 0) (j := 0) (l := 0) (u := 1999) rfl
  have h279_ : a268_ 0 0 = a 0 0 := hf268_ 0 0 rfl
  have h280_ := iv_get hv270_ (k := 146) (j := 0) (l := 0) (u := 1999) rfl
  have h281_ : a270_ 146 0 = a268_ 146 0 := hf270_ 146 0 rfl
  have h282_ := iv_get hv268_ (k := 146) (j := 0) (l := 0) (u := 1999) rfl
  have h283_ : a268_ 146 0 = a 146 0 := hf268_ 146 0 rfl
  have h284_ := iv_get hv270_ (k := 4) (j := 6) (l := 0) (u := 40) rfl
  have h285_ : a270_ 4 6 = a268_ 4 6 := hf270_ 4 6 rfl
  have h286_ := iv_get hv268_ (k := 4) (j := 6) (l := 0) (u := 40) rfl
  have h287_ : a268_ 4 6 = a 4 6 := hf268_ 4 6 rfl
  have h288_ := iv_get hv270_ (k := 146) (j := 2) (l := 0) (u := 40) rfl
  have h289_ : a270_ 146 2 = a268_ 146 2 := hf270_ 146 2 rfl
  have h290_ := iv_get hv270_ (k := 2) (j := 1) (l := 0) (u := 200) rfl
  have h291_ : a270_ 2 1 = a268_ 2 1 := hf270_ 2 1 rfl
  have h292_ := iv_get hv270_ (k := 105) (j := 5) (l := 0) (u := 10) rfl
  have h293_ : a270_ 105 5 = a268_ 105 5 := hf270_ 105 5 rfl
  have h294_ := iv_get hv268_ (k := 105) (j := 5) (l := 0) (u := 10) rfl
  have h295_ : a268_ 105 5 = a 105 5 := hf268_ 105 5 rfl
  have h296_ := iv_get hv270_ (k := 146) (j := 68) (l := 0) (u := 10) rfl
  have h297_ : a270_ 146 68 = a268_ 146 68 := hf270_ 146 68 rfl
  have h298_ := iv_get hv268_ (k := 146) (j := 68) (l := 0) (u := 10) rfl
  have h299_ : a268_ 146 68 = a 146 68 := hf268_ 146 68 rfl
  exact hnext a270_ b hv270_ hq270_0 (SV_fr (SV_fr hg1 hf268_ (fun _ => rfl) (fun _ => rfl)) hf270_ (fun _ => rfl) (fun _ => rfl)) (OC_fr (OC_fr hg2 hf268_ rfl rfl (fun _ => rfl) (fun _ => rfl) (fun _ => rfl) (fun _ => rfl) (fun _ => rfl)) hf270_ rfl rfl (fun _ => rfl) (fun _ => rfl) (fun _ => rfl) (fun _ => rfl) (fun _ => rfl)) (FO_fr (FO_fr hg3 hf268_ rfl rfl (fun _ => rfl)) hf270_ rfl rfl (fun _ => rfl)) (FW_fr (FW_fr hg4 hf268_ rfl (fun _ => rfl)) hf270_ rfl (fun _ => rfl)) (TAPE_fr (TAPE_fr hg5 hf268_ (fun _ => rfl) (fun _ => rfl)) hf270_ (fun _ => rfl) (fun _ => rfl)) (MEMR_fr (MEMR_fr hg6 hf268_ (fun _ => rfl) (fun _ => rfl) (fun _ => rfl) (fun _ => rfl) (fun _ => rfl) (fun _ => rfl) (fun _ => rfl) (fun _ => rfl) (fun _ => rfl) (fun _ => rfl)) hf270_ (fun _ => rfl) (fun _ => rfl) (fun _ => rfl) (fun _ => rfl) (fun _ => rfl) (fun _ => rfl) (fun _ => rfl) (fun _ => rfl) (fun _ => rfl) (fun _ => rfl)) (FARR_fr (FARR_fr hg7 hf268_ (fun _ => rfl) (fun _ => rfl)) hf270_ (fun _ => rfl) (fun _ => rfl)) hW270 (CIC_fr (CIC_fr hg9 hf268_ rfl rfl rfl rfl (fun _ => rfl) (fun _ => rfl) (fun _ => rfl) (fun _ => rfl) (fun _ => rfl) (fun _ => rfl) (fun _ => rfl) (fun _ => rfl) (fun _ => rfl) (fun _ => rfl)) hf270_ rfl rfl rfl rfl (fun _ => rfl) (fun _ => rfl) (fun _ => rfl) (fun _ => rfl) (fun _ => rfl) (fun _ => rfl) (fun _ => rfl) (fun _ => rfl) (fun _ => rfl) (fun _ => rfl)) (STR_fr (STR_fr hg10 hf268_ rfl rfl rfl (fun _ => rfl) (fun _ => rfl) rfl rfl (fun _ => rfl) (fun _ => rfl) (fun _ => rfl) (fun _ => rfl) (fun _ => rfl) (fun _ => rfl) (fun _ => rfl) (fun _ => rfl) (fun _ => rfl) (fun _ => rfl) (fun _ => rfl) rfl rfl (fun _ => rfl) (fun _ => rfl) (fun _ => rfl) (fun _ => rfl) (fun _ => rfl) (fun _ => rfl) rfl (fun _ => rfl) (fun _ => rfl) rfl rfl rfl rfl rfl rfl (fun _ => rfl) (fun _ => rfl) (fun _ => rfl) (fun _ => rfl) (fun _ => rfl) (fun _ => rfl) (fun _ => rfl) (fun _ => rfl) (fun _ => rfl) (fun _ => rfl) (fun _ => rfl) (fun _ => rfl) (fun _ => rfl) (fun _ => rfl) (fun _ => rfl) (fun _ => rfl) (fun _ => rfl) (fun _ => rfl) (fun _ => rfl) (fun _ => rfl)) hf270_ rfl rfl rfl (fun _ => rfl) (fun _ => rfl) rfl rfl (fun _ => rfl) (fun _ => rfl) (fun _ => rfl) (fun _ => rfl) (fun _ => rfl) (fun _ => rfl) (fun _ => rfl) (fun _ => rfl) (fun _ => rfl) (fun _ => rfl) (fun _ => rfl) rfl rfl (fun _ => rfl) (fun _ => rfl) (fun _ => rfl) (fun _ => rfl) (fun _ => rfl) (fun _ => rfl) rfl (fun _ => rfl) (fun _ => rfl) rfl rfl rfl rfl rfl rfl (fun _ => rfl) (fun _ => rfl) (fun _ => rfl) (fun _ => rfl) (fun _ => rfl) (fun _ => rfl) (fun _ => rfl) (fun _ => rfl) (fun _ => rfl) (fun _ => rfl) (fun _ => rfl) (fun _ => rfl) (fun _ => rfl) (fun _ => rfl) (fun _ => rfl) (fun _ => rfl) (fun _ => rfl) (fun _ => rfl) (fun _ => rfl) (fun _ => rfl)) (show a270_ 0 0 = a270_ 146 0 from by omega) (show a270_ 4 6 = a270_ 146 2 from by omega) (show a270_ 2 1 = a270_ 146 22 from by omega) (show a270_ 105 5 = a270_ 146 68 from by omega)
theorem lw_op421 (E : jxE) (d : Nat) (hd : Nat.ble 60 (d + 1) = true) (hL : E.1 ≤ 3072) (y3 : Int) (hy0 : 0 ≤ y3) (hy1 : y3 + 6 ≤ E.1) (hnext : ∀ (a b : Nat → Nat → Int) (hv : iv a) (hg0 : WFW a) (hg1 : SV a) (hg2 : OC a) (hg3 : FO a) (hg4 : FW a) (hg5 : TAPE a) (hg6 : MEMR a) (hg7 : FARR a) (hg8 : WISHR a) (hg9 : CIC a) (hg10 : STR a) (hr0 : a 0 0 = a 146 0) (hr1 : a 4 6 = a 146 2) (hr2 : a 2 1 = a 146 22) (hr3 : a 105 5 = a 146 68), jt (jxX E d 305 1189 [some (.inr (.inr (.inl 3000))), some (.inr (.inr (.inl 0))), some (.inr (.inr (.inl 146))), some (.inl y3)] [] (jxSH, a, b)) (fun v _ _ => v = [.inl 1])) (a b : Nat → Nat → Int) (hv : iv a) (hg0 : WFW a) (hg1 : SV a) (hg2 : OC a) (hg3 : FO a) (hg4 : FW a) (hg5 : TAPE a) (hg6 : MEMR a) (hg7 : FARR a) (hg8 : WISHR a) (hg9 : CIC a) (hg10 : STR a) (hr0 : a 0 0 = a 146 0) (hr1 : a 4 6 = a 146 2) (hr2 : a 2 1 = a 146 22) (hr3 : a 105 5 = a 146 68) : jt (jxX E d 305 421 [some (.inr (.inr (.inl 3000))), some (.inr (.inr (.inl 0))), some (.inr (.inr (.inl 146))), some (.inl y3)] [] (jxSH, a, b)) (fun v _ _ => v = [.inl 1]) := by
  refine jt_eq (bq_law_421 E d y3 a b) ?_
  have h300_ := iv_get hv (k := 0) (j := 0) (l := 0) (u := 1999) rfl
  have h301_ := iv_get hv (k := 146) (j := 0) (l := 0) (u := 1999) rfl
  have h302_ := iv_get hv (k := 4) (j := 6) (l := 0) (u := 40) rfl
  have h303_ := iv_get hv (k := 146) (j := 2) (l := 0) (u := 40) rfl
  have h304_ := iv_get hv (k := 2) (j := 1) (l := 0) (u := 200) rfl
  have h305_ := iv_get hv (k := 146) (j := 22) (l := 0) (u := 200) rfl
  have h306_ := iv_get hv (k := 105) (j := 5) (l := 0) (u := 10) rfl
  have h307_ := iv_get hv (k := 146) (j := 68) (l := 0) (u := 10) rfl
  have hBAS : BAS a := ⟨hv, hr0, hr1, hg6, hg7, hg8⟩
  have hring := AL_ring (b := b) (b2 := b) hBAS hg10 ((E.2 ((jxw (y3 + 1)).toNat))) ((E.2 ((jxw (y3 + 2)).toNat)))
  refine jt_bif (Nat.ble_eq_true_of_le (by omega)) ?_
  have h308_ : jxw (y3 + 1) = y3 + 1 := jxw_id (by omega) (by omega)
  refine jt_grd (by omega) ?_
  refine jt_bif (Nat.ble_eq_true_of_le (by omega)) ?_
  have h309_ : jxw (y3 + 2) = y3 + 2 := jxw_id (by omega) (by omega)
  refine jt_grd (by omega) ?_
  refine jt_bI (sp_X11_meets E d (jd_le hd rfl) (E.2 ((jxw (y3 + 1)).toNat)) (E.2 ((jxw (y3 + 2)).toNat)) a b hv hg8) (fun r310_ a310_ b310_ h310_ => ?_)
  obtain ⟨rfl, rfl, hq310_0, hq310_1, hq310_2⟩ := h310_
  refine jt_eq (bq_law_436 E d y3 a b) ?_
  refine jt_bif (Nat.ble_eq_true_of_le (by omega)) ?_
  refine jt_grd (by omega) ?_
  refine jt_bif (Nat.ble_eq_true_of_le (by omega)) ?_
  refine jt_grd (by omega) ?_
  refine jt_bI (sp_X12_meets E d (jd_le hd rfl) (E.2 ((jxw (y3 + 1)).toNat)) (E.2 ((jxw (y3 + 2)).toNat)) a b hv hg0 hg8) (fun r311_ a311_ b311_ h311_ => ?_)
  obtain ⟨hv311_, hf311_, rfl, hq311_0, hq311_1, hq311_2⟩ := h311_
  have hmt311 : 0 ≤ (E.2 ((jxw (y3 + 1)).toNat)) → (E.2 ((jxw (y3 + 1)).toNat)) < a 4 6 → 0 ≤ (E.2 ((jxw (y3 + 2)).toNat)) → (E.2 ((jxw (y3 + 2)).toNat)) < a 4 6 → ¬ (E.2 ((jxw (y3 + 1)).toNat)) = (E.2 ((jxw (y3 + 2)).toNat)) → r310_ = r311_ := fun h1 h2 h3 h4 h5 => by have e1 := hq310_1 h1 h2 h3 h4 h5; have e2 := hq311_1 h1 (by omega) h3 (by omega) h5; exact e1.trans ((MET_eq hv hg8 hg6 hg7 hr0 h1 h2 h3 h4).trans e2.symm)
  have h312_ := iv_get hv311_ (k := 0) (j := 0) (l := 0) (u := 1999) rfl
  have h313_ : a311_ 0 0 = a 0 0 := hf311_ 0 0 rfl
  have h314_ := iv_get hv311_ (k := 146) (j := 0) (l := 0) (u := 1999) rfl
  have h315_ : a311_ 146 0 = a 146 0 := hf311_ 146 0 rfl
  have h316_ := iv_get hv311_ (k := 4) (j := 6) (l := 0) (u := 40) rfl
  have h317_ : a311_ 4 6 = a 4 6 := hf311_ 4 6 rfl
  have h318_ := iv_get hv311_ (k := 146) (j := 2) (l := 0) (u := 40) rfl
  have h319_ : a311_ 146 2 = a 146 2 := hf311_ 146 2 rfl
  have h320_ := iv_get hv311_ (k := 2) (j := 1) (l := 0) (u := 200) rfl
  have h321_ : a311_ 2 1 = a 2 1 := hf311_ 2 1 rfl
  have h322_ := iv_get hv311_ (k := 146) (j := 22) (l := 0) (u := 200) rfl
  have h323_ : a311_ 146 22 = a 146 22 := hf311_ 146 22 rfl
  have h324_ := iv_get hv311_ (k := 105) (j := 5) (l := 0) (u := 10) rfl
  have h325_ : a311_ 105 5 = a 105 5 := hf311_ 105 5 rfl
  have h326_ := iv_get hv311_ (k := 146) (j := 68) (l := 0) (u := 10) rfl
  have h327_ : a311_ 146 68 = a 146 68 := hf311_ 146 68 rfl
  exact hnext a311_ b hv311_ (WFW_fr hg0 hf311_ (fun _ => rfl) (fun _ => rfl)) (SV_fr hg1 hf311_ (fun _ => rfl) (fun _ => rfl)) (OC_fr hg2 hf311_ rfl rfl (fun _ => rfl) (fun _ => rfl) (fun _ => rfl) (fun _ => rfl) (fun _ => rfl)) (FO_fr hg3 hf311_ rfl rfl (fun _ => rfl)) (FW_fr hg4 hf311_ rfl (fun _ => rfl)) (TAPE_fr hg5 hf311_ (fun _ => rfl) (fun _ => rfl)) (MEMR_fr hg6 hf311_ (fun _ => rfl) (fun _ => rfl) (fun _ => rfl) (fun _ => rfl) (fun _ => rfl) (fun _ => rfl) (fun _ => rfl) (fun _ => rfl) (fun _ => rfl) (fun _ => rfl)) (FARR_fr hg7 hf311_ (fun _ => rfl) (fun _ => rfl)) (WISHR_fr hg8 hf311_ (fun _ => rfl) (fun _ => rfl) (fun _ => rfl) (fun _ => rfl)) (CIC_fr hg9 hf311_ rfl rfl rfl rfl (fun _ => rfl) (fun _ => rfl) (fun _ => rfl) (fun _ => rfl) (fun _ => rfl) (fun _ => rfl) (fun _ => rfl) (fun _ => rfl) (fun _ => rfl) (fun _ => rfl)) (STR_fr hg10 hf311_ rfl rfl rfl (fun _ => rfl) (fun _ => rfl) rfl rfl (fun _ => rfl) (fun _ => rfl) (fun _ => rfl) (fun _ => rfl) (fun _ => rfl) (fun _ => rfl) (fun _ => rfl) (fun _ => rfl) (fun _ => rfl) (fun _ => rfl) (fun _ => rfl) rfl rfl (fun _ => rfl) (fun _ => rfl) (fun _ => rfl) (fun _ => rfl) (fun _ => rfl) (fun _ => rfl) rfl (fun _ => rfl) (fun _ => rfl) rfl rfl rfl rfl rfl rfl (fun _ => rfl) (fun _ => rfl) (fun _ => rfl) (fun _ => rfl) (fun _ => rfl) (fun _ => rfl) (fun _ => rfl) (fun _ => rfl) (fun _ => rfl) (fun _ => rfl) (fun _ => rfl) (fun _ => rfl) (fun _ => rfl) (fun _ => rfl) (fun _ => rfl) (fun _ => rfl) (fun _ => rfl) (fun _ => rfl) (fun _ => rfl) (fun _ => rfl)) (show a311_ 0 0 = a311_ 146 0 from by omega) (show a311_ 4 6 = a311_ 146 2 from by omega) (show a311_ 2 1 = a311_ 146 22 from by omega) (show a311_ 105 5 = a311_ 146 68 from by omega)
theorem lw_op454 (E : jxE) (d : Nat) (hd : Nat.ble 60 (d + 1) = true) (hL : E.1 ≤ 3072) (y3 : Int) (hy0 : 0 ≤ y3) (hy1 : y3 + 6 ≤ E.1) (hnext : ∀ (a b : Nat → Nat → Int) (hv : iv a) (hg0 : WFW a) (hg1 : SV a) (hg2 : OC a) (hg3 : FO a) (hg4 : FW a) (hg5 : TAPE a) (hg6 : MEMR a) (hg7 : FARR a) (hg8 : WISHR a) (hg9 : CIC a) (hg10 : STR a) (hr0 : a 0 0 = a 146 0) (hr1 : a 4 6 = a 146 2) (hr2 : a 2 1 = a 146 22) (hr3 : a 105 5 = a 146 68), jt (jxX E d 305 1189 [some (.inr (.inr (.inl 3000))), some (.inr (.inr (.inl 0))), some (.inr (.inr (.inl 146))), some (.inl y3)] [] (jxSH, a, b)) (fun v _ _ => v = [.inl 1])) (a b : Nat → Nat → Int) (hv : iv a) (hg0 : WFW a) (hg1 : SV a) (hg2 : OC a) (hg3 : FO a) (hg4 : FW a) (hg5 : TAPE a) (hg6 : MEMR a) (hg7 : FARR a) (hg8 : WISHR a) (hg9 : CIC a) (hg10 : STR a) (hr0 : a 0 0 = a 146 0) (hr1 : a 4 6 = a 146 2) (hr2 : a 2 1 = a 146 22) (hr3 : a 105 5 = a 146 68) : jt (jxX E d 305 454 [some (.inr (.inr (.inl 3000))), some (.inr (.inr (.inl 0))), some (.inr (.inr (.inl 146))), some (.inl y3)] [] (jxSH, a, b)) (fun v _ _ => v = [.inl 1]) := by
  refine jt_eq (bq_law_454 E d y3 a b) ?_
  have h328_ := iv_get hv (k := 0) (j := 0) (l := 0) (u := 1999) rfl
  have h329_ := iv_get hv (k := 146) (j := 0) (l := 0) (u := 1999) rfl
  have h330_ := iv_get hv (k := 4) (j := 6) (l := 0) (u := 40) rfl
  have h331_ := iv_get hv (k := 146) (j := 2) (l := 0) (u := 40) rfl
  have h332_ := iv_get hv (k := 2) (j := 1) (l := 0) (u := 200) rfl
  have h333_ := iv_get hv (k := 146) (j := 22) (l := 0) (u := 200) rfl
  have h334_ := iv_get hv (k := 105) (j := 5) (l := 0) (u := 10) rfl
  have h335_ := iv_get hv (k := 146) (j := 68) (l := 0) (u := 10) rfl
  have hBAS : BAS a := ⟨hv, hr0, hr1, hg6, hg7, hg8⟩
  have hring := AL_ring (b := b) (b2 := b) hBAS hg10 ((E.2 ((jxw (y3 + 1)).toNat))) ((E.2 ((jxw (y3 + 2)).toNat)))
  refine jt_bI (sp_X11_rules E d (jd_le hd rfl) a b hv) (fun r336_ a336_ b336_ h336_ => ?_)
  obtain ⟨hv336_, hf336_, rfl, hq336_0, hq336_1, hq336_2, hq336_3, hq336_4, hq336_5, hq336_6⟩ := h336_
  have h337_ := iv_get hv336_ (k := 2) (j := 1) (l := 0) (u := 200) rfl
  refine jt_eq (bq_law_459 E d y3 a336_ b) ?_
  refine jt_bI (sp_X12_rules E d (jd_le hd rfl) a336_ b hv336_) (fun r338_ a338_ b338_ h338_ => ?_)
  obtain ⟨hv338_, hf338_, rfl, hq338_0, hq338_1, hq338_2, hq338_3, hq338_4, hq338_5, hq338_6⟩ := h338_
  have h339_ := iv_get hv336_ (k := 146) (j := 22) (l := 0) (u := 200) rfl
  have h340_ : a336_ 146 22 = a 146 22 := hf336_ 146 22 rfl
  have h341_ := iv_get hv338_ (k := 146) (j := 22) (l := 0) (u := 200) rfl
  have hrr338 : r336_ = r338_ := by by_cases h : a 2 1 ≤ 100 <;> first | exact RR_law hg5 hr2 (fun j => hf336_ 164 j rfl) (hf336_ 146 22 rfl) (hq336_3 h) (hq338_3 (by have e := hf336_ 146 22 rfl; omega)) | (have e := hf336_ 146 22 rfl; omega)
  have hS338 : STR a338_ := ST_on hg10 (CLS_fr hf336_ rfl) (RFS_fr hf338_ rfl) (KOF_fr hf336_ rfl) (KOFr_fr hf338_ rfl) (KFD_fr hf336_ rfl) (KFDr_fr hf338_ rfl) (KLS_fr hf336_ rfl) (KLSr_fr hf338_ rfl) (cvC_fr hf336_ rfl) (cvR_fr hf338_ rfl) (funext fun j => hf336_ 9 j rfl) (funext fun j => hf338_ 153 j rfl) (by rw [hf336_ 4 6 rfl]; exact Int.le_refl _) (by rw [hf336_ 0 0 rfl]; exact Int.le_refl _) (RLE_rules hg10.1.2.2.2.2 (CLS_fr hf336_ rfl) (RFS_fr hf338_ rfl) hg5 hr2 hrr338 hq336_4 hq336_5 hq338_4 hq338_5)
  have h342_ := iv_get hv338_ (k := 0) (j := 0) (l := 0) (u := 1999) rfl
  have h343_ : a338_ 0 0 = a336_ 0 0 := hf338_ 0 0 rfl
  have h344_ := iv_get hv336_ (k := 0) (j := 0) (l := 0) (u := 1999) rfl
  have h345_ : a336_ 0 0 = a 0 0 := hf336_ 0 0 rfl
  have h346_ := iv_get hv338_ (k := 146) (j := 0) (l := 0) (u := 1999) rfl
  have h347_ : a338_ 146 0 = a336_ 146 0 := hf338_ 146 0 rfl
  have h348_ := iv_get hv336_ (k := 146) (j := 0) (l := 0) (u := 1999) rfl
  have h349_ : a336_ 146 0 = a 146 0 := hf336_ 146 0 rfl
  have h350_ := iv_get hv338_ (k := 4) (j := 6) (l := 0) (u := 40) rfl
  have h351_ : a338_ 4 6 = a336_ 4 6 := hf338_ 4 6 rfl
  have h352_ := iv_get hv336_ (k := 4) (j := 6) (l := 0) (u := 40) rfl
  have h353_ : a336_ 4 6 = a 4 6 := hf336_ 4 6 rfl
  have h354_ := iv_get hv338_ (k := 146) (j := 2) (l := 0) (u := 40) rfl
  have h355_ : a338_ 146 2 = a336_ 146 2 := hf338_ 146 2 rfl
  have h356_ := iv_get hv336_ (k := 146) (j := 2) (l := 0) (u := 40) rfl
  have h357_ : a336_ 146 2 = a 146 2 := hf336_ 146 2 rfl
  have h358_ := iv_get hv338_ (k := 2) (j := 1) (l := 0) (u := 200) rfl
  have h359_ : a338_ 2 1 = a336_ 2 1 := hf338_ 2 1 rfl
  have h360_ := iv_get hv338_ (k := 105) (j := 5) (l := 0) (u := 10) rfl
  have h361_ : a338_ 105 5 = a336_ 105 5 := hf338_ 105 5 rfl
  have h362_ := iv_get hv336_ (k := 105) (j := 5) (l := 0) (u := 10) rfl
  have h363_ : a336_ 105 5 = a 105 5 := hf336_ 105 5 rfl
  have h364_ := iv_get hv338_ (k := 146) (j := 68) (l := 0) (u := 10) rfl
  have h365_ : a338_ 146 68 = a336_ 146 68 := hf338_ 146 68 rfl
  have h366_ := iv_get hv336_ (k := 146) (j := 68) (l := 0) (u := 10) rfl
  have h367_ : a336_ 146 68 = a 146 68 := hf336_ 146 68 rfl
  exact hnext a338_ b hv338_ (WFW_fr (WFW_fr hg0 hf336_ (fun _ => rfl) (fun _ => rfl)) hf338_ (fun _ => rfl) (fun _ => rfl)) (SV_fr (SV_fr hg1 hf336_ (fun _ => rfl) (fun _ => rfl)) hf338_ (fun _ => rfl) (fun _ => rfl)) (OC_fr (OC_fr hg2 hf336_ rfl rfl (fun _ => rfl) (fun _ => rfl) (fun _ => rfl) (fun _ => rfl) (fun _ => rfl)) hf338_ rfl rfl (fun _ => rfl) (fun _ => rfl) (fun _ => rfl) (fun _ => rfl) (fun _ => rfl)) (FO_fr (FO_fr hg3 hf336_ rfl rfl (fun _ => rfl)) hf338_ rfl rfl (fun _ => rfl)) (FW_fr (FW_fr hg4 hf336_ rfl (fun _ => rfl)) hf338_ rfl (fun _ => rfl)) (TAPE_fr (TAPE_fr hg5 hf336_ (fun _ => rfl) (fun _ => rfl)) hf338_ (fun _ => rfl) (fun _ => rfl)) (MEMR_fr (MEMR_fr hg6 hf336_ (fun _ => rfl) (fun _ => rfl) (fun _ => rfl) (fun _ => rfl) (fun _ => rfl) (fun _ => rfl) (fun _ => rfl) (fun _ => rfl) (fun _ => rfl) (fun _ => rfl)) hf338_ (fun _ => rfl) (fun _ => rfl) (fun _ => rfl) (fun _ => rfl) (fun _ => rfl) (fun _ => rfl) (fun _ => rfl) (fun _ => rfl) (fun _ => rfl) (fun _ => rfl)) (FARR_fr (FARR_fr hg7 hf336_ (fun _ => rfl) (fun _ => rfl)) hf338_ (fun _ => rfl) (fun _ => rfl)) (WISHR_fr (WISHR_fr hg8 hf336_ (fun _ => rfl) (fun _ => rfl) (fun _ => rfl) (fun _ => rfl)) hf338_ (fun _ => rfl) (fun _ => rfl) (fun _ => rfl) (fun _ => rfl)) hS338.1.2.2.1 hS338 (show a338_ 0 0 = a338_ 146 0 from by omega) (show a338_ 4 6 = a338_ 146 2 from by omega) (show a338_ 2 1 = a338_ 146 22 from by omega) (show a338_ 105 5 = a338_ 146 68 from by omega)
theorem lw_op467 (E : jxE) (d : Nat) (hd : Nat.ble 60 (d + 1) = true) (hL : E.1 ≤ 3072) (y3 : Int) (hy0 : 0 ≤ y3) (hy1 : y3 + 6 ≤ E.1) (hnext : ∀ (a b : Nat → Nat → Int) (hv : iv a) (hg0 : WFW a) (hg1 : SV a) (hg2 : OC a) (hg3 : FO a) (hg4 : FW a) (hg5 : TAPE a) (hg6 : MEMR a) (hg7 : FARR a) (hg8 : WISHR a) (hg9 : CIC a) (hg10 : STR a) (hr0 : a 0 0 = a 146 0) (hr1 : a 4 6 = a 146 2) (hr2 : a 2 1 = a 146 22) (hr3 : a 105 5 = a 146 68), jt (jxX E d 305 1189 [some (.inr (.inr (.inl 3000))), some (.inr (.inr (.inl 0))), some (.inr (.inr (.inl 146))), some (.inl y3)] [] (jxSH, a, b)) (fun v _ _ => v = [.inl 1])) (a b : Nat → Nat → Int) (hv : iv a) (hg0 : WFW a) (hg1 : SV a) (hg2 : OC a) (hg3 : FO a) (hg4 : FW a) (hg5 : TAPE a) (hg6 : MEMR a) (hg7 : FARR a) (hg8 : WISHR a) (hg9 : CIC a) (hg10 : STR a) (hr0 : a 0 0 = a 146 0) (hr1 : a 4 6 = a 146 2) (hr2 : a 2 1 = a 146 22) (hr3 : a 105 5 = a 146 68) : jt (jxX E d 305 467 [some (.inr (.inr (.inl 3000))), some (.inr (.inr (.inl 0))), some (.inr (.inr (.inl 146))), some (.inl y3)] [] (jxSH, a, b)) (fun v _ _ => v = [.inl 1]) := by
  refine jt_eq (bq_law_467 E d y3 a b) ?_
  have h368_ := iv_get hv (k := 0) (j := 0) (l := 0) (u := 1999) rfl
  have h369_ := iv_get hv (k := 146) (j := 0) (l := 0) (u := 1999) rfl
  have h370_ := iv_get hv (k := 4) (j := 6) (l := 0) (u := 40) rfl
  have h371_ := iv_get hv (k := 146) (j := 2) (l := 0) (u := 40) rfl
  have h372_ := iv_get hv (k := 2) (j := 1) (l := 0) (u := 200) rfl
  have h373_ := iv_get hv (k := 146) (j := 22) (l := 0) (u := 200) rfl
  have h374_ := iv_get hv (k := 105) (j := 5) (l := 0) (u := 10) rfl
  have h375_ := iv_get hv (k := 146) (j := 68) (l := 0) (u := 10) rfl
  have hBAS : BAS a := ⟨hv, hr0, hr1, hg6, hg7, hg8⟩
  have hring := AL_ring (b := b) (b2 := b) hBAS hg10 ((E.2 ((jxw (y3 + 1)).toNat))) ((E.2 ((jxw (y3 + 2)).toNat)))
  refine jt_bif (Nat.ble_eq_true_of_le (by omega)) ?_
  have h376_ : jxw (y3 + 1) = y3 + 1 := jxw_id (by omega) (by omega)
  refine jt_grd (by omega) ?_
  refine jt_bI (sp_X11_ask E d (jd_le hd rfl) (E.2 ((jxw (y3 + 1)).toNat)) a b hv hg8) (fun r377_ a377_ b377_ h377_ => ?_)
  obtain ⟨hv377_, hf377_, rfl, hq377_0, hq377_1, hq377_2, hq377_3⟩ := h377_
  have h378_ := iv_get hv (k := 58) (j := 8) (l := 0) (u := 300) rfl
  refine jt_eq (bq_law_477 E d y3 a377_ b) ?_
  refine jt_bif (Nat.ble_eq_true_of_le (by omega)) ?_
  refine jt_grd (by omega) ?_
  refine jt_bI (sp_X12_ask E d (jd_le hd rfl) (E.2 ((jxw (y3 + 1)).toNat)) a377_ b hv377_ (WFW_fr hg0 hf377_ (fun _ => rfl) (fun _ => rfl)) (OC_fr hg2 hf377_ rfl rfl (fun _ => rfl) (fun _ => rfl) (fun _ => rfl) (fun _ => rfl) (fun _ => rfl)) (WISHR_fr hg8 hf377_ (fun _ => rfl) (fun _ => rfl) (fun _ => rfl) (fun _ => rfl))) (fun r379_ a379_ b379_ h379_ => ?_)
  obtain ⟨hv379_, hf379_, rfl, hq379_0, hq379_1, hq379_2, hq379_3, hq379_4⟩ := h379_
  have h380_ := iv_get hv377_ (k := 146) (j := 2) (l := 0) (u := 40) rfl
  have h381_ : a377_ 146 2 = a 146 2 := hf377_ 146 2 rfl
  have h382_ := iv_get hv377_ (k := 146) (j := 9) (l := 0) (u := 300) rfl
  have h383_ : a377_ 146 9 = a 146 9 := hf377_ 146 9 rfl
  have h384_ := iv_get hv (k := 146) (j := 9) (l := 0) (u := 300) rfl
  have hL379 := ST_ask hBAS hg10 ⟨(CLS_fr hf377_ rfl), (RFS_fr hf379_ rfl), (KOF_fr hf377_ rfl), (KOFr_fr hf379_ rfl), (KFD_fr hf377_ rfl), (KFDr_fr hf379_ rfl), (KB_fr hf377_ rfl rfl), (KBr_fr hf379_ rfl)⟩ (funext fun j => hf377_ 9 j rfl) (funext fun j => hf379_ 153 j rfl) (KLS_fr hf377_ rfl) (KLSr_fr hf379_ rfl) hq377_1 hq377_3 (fun h => by have z := hq377_2; omega) hq379_2 hq379_4 (fun h => by have z := hq379_3; omega)
  have hLr379 : r377_ = r379_ := hL379.1
  have hS379 : STR a379_ := hL379.2
  have h385_ := iv_get hv379_ (k := 0) (j := 0) (l := 0) (u := 1999) rfl
  have h386_ : a379_ 0 0 = a377_ 0 0 := hf379_ 0 0 rfl
  have h387_ := iv_get hv377_ (k := 0) (j := 0) (l := 0) (u := 1999) rfl
  have h388_ : a377_ 0 0 = a 0 0 := hf377_ 0 0 rfl
  have h389_ := iv_get hv379_ (k := 146) (j := 0) (l := 0) (u := 1999) rfl
  have h390_ : a379_ 146 0 = a377_ 146 0 := hf379_ 146 0 rfl
  have h391_ := iv_get hv377_ (k := 146) (j := 0) (l := 0) (u := 1999) rfl
  have h392_ : a377_ 146 0 = a 146 0 := hf377_ 146 0 rfl
  have h393_ := iv_get hv379_ (k := 4) (j := 6) (l := 0) (u := 40) rfl
  have h394_ : a379_ 4 6 = a377_ 4 6 := hf379_ 4 6 rfl
  have h395_ := iv_get hv377_ (k := 4) (j := 6) (l := 0) (u := 40) rfl
  have h396_ : a377_ 4 6 = a 4 6 := hf377_ 4 6 rfl
  have h397_ := iv_get hv379_ (k := 146) (j := 2) (l := 0) (u := 40) rfl
  have h398_ : a379_ 146 2 = a377_ 146 2 := hf379_ 146 2 rfl
  have h399_ := iv_get hv379_ (k := 2) (j := 1) (l := 0) (u := 200) rfl
  have h400_ : a379_ 2 1 = a377_ 2 1 := hf379_ 2 1 rfl
  have h401_ := iv_get hv377_ (k := 2) (j := 1) (l := 0) (u := 200) rfl
  have h402_ : a377_ 2 1 = a 2 1 := hf377_ 2 1 rfl
  have h403_ := iv_get hv379_ (k := 146) (j := 22) (l := 0) (u := 200) rfl
  have h404_ : a379_ 146 22 = a377_ 146 22 := hf379_ 146 22 rfl
  have h405_ := iv_get hv377_ (k := 146) (j := 22) (l := 0) (u := 200) rfl
  have h406_ : a377_ 146 22 = a 146 22 := hf377_ 146 22 rfl
  have h407_ := iv_get hv379_ (k := 105) (j := 5) (l := 0) (u := 10) rfl
  have h408_ : a379_ 105 5 = a377_ 105 5 := hf379_ 105 5 rfl
  have h409_ := iv_get hv377_ (k := 105) (j := 5) (l := 0) (u := 10) rfl
  have h410_ : a377_ 105 5 = a 105 5 := hf377_ 105 5 rfl
  have h411_ := iv_get hv379_ (k := 146) (j := 68) (l := 0) (u := 10) rfl
  have h412_ : a379_ 146 68 = a377_ 146 68 := hf379_ 146 68 rfl
  have h413_ := iv_get hv377_ (k := 146) (j := 68) (l := 0) (u := 10) rfl
  have h414_ : a377_ 146 68 = a 146 68 := hf377_ 146 68 rfl
  exact hnext a379_ b hv379_ (WFW_fr (WFW_fr hg0 hf377_ (fun _ => rfl) (fun _ => rfl)) hf379_ (fun _ => rfl) (fun _ => rfl)) (SV_fr (SV_fr hg1 hf377_ (fun _ => rfl) (fun _ => rfl)) hf379_ (fun _ => rfl) (fun _ => rfl)) hq379_0 (FO_fr (FO_fr hg3 hf377_ rfl rfl (fun _ => rfl)) hf379_ rfl rfl (fun _ => rfl)) (FW_fr (FW_fr hg4 hf377_ rfl (fun _ => rfl)) hf379_ rfl (fun _ => rfl)) (TAPE_fr (TAPE_fr hg5 hf377_ (fun _ => rfl) (fun _ => rfl)) hf379_ (fun _ => rfl) (fun _ => rfl)) (MEMR_fr (MEMR_fr hg6 hf377_ (fun _ => rfl) (fun _ => rfl) (fun _ => rfl) (fun _ => rfl) (fun _ => rfl) (fun _ => rfl) (fun _ => rfl) (fun _ => rfl) (fun _ => rfl) (fun _ => rfl)) hf379_ (fun _ => rfl) (fun _ => rfl) (fun _ => rfl) (fun _ => rfl) (fun _ => rfl) (fun _ => rfl) (fun _ => rfl) (fun _ => rfl) (fun _ => rfl) (fun _ => rfl)) (FARR_fr (FARR_fr hg7 hf377_ (fun _ => rfl) (fun _ => rfl)) hf379_ (fun _ => rfl) (fun _ => rfl)) (WISHR_fr (WISHR_fr hg8 hf377_ (fun _ => rfl) (fun _ => rfl) (fun _ => rfl) (fun _ => rfl)) hf379_ (fun _ => rfl) (fun _ => rfl) (fun _ => rfl) (fun _ => rfl)) hS379.1.2.2.1 hS379 (show a379_ 0 0 = a379_ 146 0 from by omega) (show a379_ 4 6 = a379_ 146 2 from by omega) (show a379_ 2 1 = a379_ 146 22 from by omega) (show a379_ 105 5 = a379_ 146 68 from by omega)
theorem lw_op490 (E : jxE) (d : Nat) (hd : Nat.ble 60 (d + 1) = true) (hL : E.1 ≤ 3072) (y3 : Int) (hy0 : 0 ≤ y3) (hy1 : y3 + 6 ≤ E.1) (hnext : ∀ (a b : Nat → Nat → Int) (hv : iv a) (hg0 : WFW a) (hg1 : SV a) (hg2 : OC a) (hg3 : FO a) (hg4 : FW a) (hg5 : TAPE a) (hg6 : MEMR a) (hg7 : FARR a) (hg8 : WISHR a) (hg9 : CIC a) (hg10 : STR a) (hr0 : a 0 0 = a 146 0) (hr1 : a 4 6 = a 146 2) (hr2 : a 2 1 = a 146 22) (hr3 : a 105 5 = a 146 68), jt (jxX E d 305 1189 [some (.inr (.inr (.inl 3000))), some (.inr (.inr (.inl 0))), some (.inr (.inr (.inl 146))), some (.inl y3)] [] (jxSH, a, b)) (fun v _ _ => v = [.inl 1])) (a b : Nat → Nat → Int) (hv : iv a) (hg0 : WFW a) (hg1 : SV a) (hg2 : OC a) (hg3 : FO a) (hg4 : FW a) (hg5 : TAPE a) (hg6 : MEMR a) (hg7 : FARR a) (hg8 : WISHR a) (hg9 : CIC a) (hg10 : STR a) (hr0 : a 0 0 = a 146 0) (hr1 : a 4 6 = a 146 2) (hr2 : a 2 1 = a 146 22) (hr3 : a 105 5 = a 146 68) : jt (jxX E d 305 490 [some (.inr (.inr (.inl 3000))), some (.inr (.inr (.inl 0))), some (.inr (.inr (.inl 146))), some (.inl y3)] [] (jxSH, a, b)) (fun v _ _ => v = [.inl 1]) := by
  refine jt_eq (bq_law_490 E d y3 a b) ?_
  have h415_ := iv_get hv (k := 0) (j := 0) (l := 0) (u := 1999) rfl
  have h416_ := iv_get hv (k := 146) (j := 0) (l := 0) (u := 1999) rfl
  have h417_ := iv_get hv (k := 4) (j := 6) (l := 0) (u := 40) rfl
  have h418_ := iv_get hv (k := 146) (j := 2) (l := 0) (u := 40) rfl
  have h419_ := iv_get hv (k := 2) (j := 1) (l := 0) (u := 200) rfl
  have h420_ := iv_get hv (k := 146) (j := 22) (l := 0) (u := 200) rfl
  have h421_ := iv_get hv (k := 105) (j := 5) (l := 0) (u := 10) rfl
  have h422_ := iv_get hv (k := 146) (j := 68) (l := 0) (u := 10) rfl
  have hBAS : BAS a := ⟨hv, hr0, hr1, hg6, hg7, hg8⟩
  have hring := AL_ring (b := b) (b2 := b) hBAS hg10 ((E.2 ((jxw (y3 + 1)).toNat))) ((E.2 ((jxw (y3 + 2)).toNat)))
  refine jt_bif (Nat.ble_eq_true_of_le (by omega)) ?_
  have h423_ : jxw (y3 + 1) = y3 + 1 := jxw_id (by omega) (by omega)
  refine jt_grd (by omega) ?_
  refine jt_bif (Nat.ble_eq_true_of_le (by omega)) ?_
  have h424_ : jxw (y3 + 2) = y3 + 2 := jxw_id (by omega) (by omega)
  refine jt_grd (by omega) ?_
  refine jt_bI (sp_X11_may E d (jd_le hd rfl) (E.2 ((jxw (y3 + 1)).toNat)) (E.2 ((jxw (y3 + 2)).toNat)) a b hv hg8) (fun r425_ a425_ b425_ h425_ => ?_)
  obtain ⟨hv425_, hf425_, rfl, hq425_0, hq425_1, hq425_2⟩ := h425_
  refine jt_eq (bq_law_505 E d y3 a425_ b) ?_
  refine jt_bif (Nat.ble_eq_true_of_le (by omega)) ?_
  refine jt_grd (by omega) ?_
  refine jt_bif (Nat.ble_eq_true_of_le (by omega)) ?_
  refine jt_grd (by omega) ?_
  refine jt_bI (sp_X12_may E d (jd_le hd rfl) (E.2 ((jxw (y3 + 1)).toNat)) (E.2 ((jxw (y3 + 2)).toNat)) a425_ b hv425_ (WFW_fr hg0 hf425_ (fun _ => rfl) (fun _ => rfl)) (WISHR_fr hg8 hf425_ (fun _ => rfl) (fun _ => rfl) (fun _ => rfl) (fun _ => rfl))) (fun r426_ a426_ b426_ h426_ => ?_)
  obtain ⟨hv426_, hf426_, rfl, hq426_0, hq426_1, hq426_2⟩ := h426_
  have h427_ := iv_get hv425_ (k := 146) (j := 2) (l := 0) (u := 40) rfl
  have h428_ : a425_ 146 2 = a 146 2 := hf425_ 146 2 rfl
  have z2_426 := hf425_ 146 2 rfl
  have hLr426 : r425_ = r426_ := by
    by_cases c : 0 ≤ (E.2 ((jxw (y3 + 1)).toNat)) ∧ (E.2 ((jxw (y3 + 1)).toNat)) < a 4 6 ∧ 0 ≤ (E.2 ((jxw (y3 + 2)).toNat)) ∧ (E.2 ((jxw (y3 + 2)).toNat)) < a 4 6
    · exact AL_may hBAS hg10.1 (CLS_fr hf425_ rfl) c.1 c.2.1 c.2.2.1 c.2.2.2 (hq425_1 c.1 c.2.1 c.2.2.1 c.2.2.2) (hq426_1 c.1 (by omega) c.2.2.1 (by omega))
    · omega
  have h429_ := iv_get hv426_ (k := 0) (j := 0) (l := 0) (u := 1999) rfl
  have h430_ : a426_ 0 0 = a425_ 0 0 := hf426_ 0 0 rfl
  have h431_ := iv_get hv425_ (k := 0) (j := 0) (l := 0) (u := 1999) rfl
  have h432_ : a425_ 0 0 = a 0 0 := hf425_ 0 0 rfl
  have h433_ := iv_get hv426_ (k := 146) (j := 0) (l := 0) (u := 1999) rfl
  have h434_ : a426_ 146 0 = a425_ 146 0 := hf426_ 146 0 rfl
  have h435_ := iv_get hv425_ (k := 146) (j := 0) (l := 0) (u := 1999) rfl
  have h436_ : a425_ 146 0 = a 146 0 := hf425_ 146 0 rfl
  have h437_ := iv_get hv426_ (k := 4) (j := 6) (l := 0) (u := 40) rfl
  have h438_ : a426_ 4 6 = a425_ 4 6 := hf426_ 4 6 rfl
  have h439_ := iv_get hv425_ (k := 4) (j := 6) (l := 0) (u := 40) rfl
  have h440_ : a425_ 4 6 = a 4 6 := hf425_ 4 6 rfl
  have h441_ := iv_get hv426_ (k := 146) (j := 2) (l := 0) (u := 40) rfl
  have h442_ : a426_ 146 2 = a425_ 146 2 := hf426_ 146 2 rfl
  have h443_ := iv_get hv426_ (k := 2) (j := 1) (l := 0) (u := 200) rfl
  have h444_ : a426_ 2 1 = a425_ 2 1 := hf426_ 2 1 rfl
  have h445_ := iv_get hv425_ (k := 2) (j := 1) (l := 0) (u := 200) rfl
  have h446_ : a425_ 2 1 = a 2 1 := hf425_ 2 1 rfl
  have h447_ := iv_get hv426_ (k := 146) (j := 22) (l := 0) (u := 200) rfl
  have h448_ : a426_ 146 22 = a425_ 146 22 := hf426_ 146 22 rfl
  have h449_ := iv_get hv425_ (k := 146) (j := 22) (l := 0) (u := 200) rfl
  have h450_ : a425_ 146 22 = a 146 22 := hf425_ 146 22 rfl
  have h451_ := iv_get hv426_ (k := 105) (j := 5) (l := 0) (u := 10) rfl
  have h452_ : a426_ 105 5 = a425_ 105 5 := hf426_ 105 5 rfl
  have h453_ := iv_get hv425_ (k := 105) (j := 5) (l := 0) (u := 10) rfl
  have h454_ : a425_ 105 5 = a 105 5 := hf425_ 105 5 rfl
  have h455_ := iv_get hv426_ (k := 146) (j := 68) (l := 0) (u := 10) rfl
  have h456_ : a426_ 146 68 = a425_ 146 68 := hf426_ 146 68 rfl
  have h457_ := iv_get hv425_ (k := 146) (j := 68) (l := 0) (u := 10) rfl
  have h458_ : a425_ 146 68 = a 146 68 := hf425_ 146 68 rfl
  exact hnext a426_ b hv426_ (WFW_fr (WFW_fr hg0 hf425_ (fun _ => rfl) (fun _ => rfl)) hf426_ (fun _ => rfl) (fun _ => rfl)) (SV_fr (SV_fr hg1 hf425_ (fun _ => rfl) (fun _ => rfl)) hf426_ (fun _ => rfl) (fun _ => rfl)) (OC_fr (OC_fr hg2 hf425_ rfl rfl (fun _ => rfl) (fun _ => rfl) (fun _ => rfl) (fun _ => rfl) (fun _ => rfl)) hf426_ rfl rfl (fun _ => rfl) (fun _ => rfl) (fun _ => rfl) (fun _ => rfl) (fun _ => rfl)) (FO_fr (FO_fr hg3 hf425_ rfl rfl (fun _ => rfl)) hf426_ rfl rfl (fun _ => rfl)) (FW_fr (FW_fr hg4 hf425_ rfl (fun _ => rfl)) hf426_ rfl (fun _ => rfl)) (TAPE_fr (TAPE_fr hg5 hf425_ (fun _ => rfl) (fun _ => rfl)) hf426_ (fun _ => rfl) (fun _ => rfl)) (MEMR_fr (MEMR_fr hg6 hf425_ (fun _ => rfl) (fun _ => rfl) (fun _ => rfl) (fun _ => rfl) (fun _ => rfl) (fun _ => rfl) (fun _ => rfl) (fun _ => rfl) (fun _ => rfl) (fun _ => rfl)) hf426_ (fun _ => rfl) (fun _ => rfl) (fun _ => rfl) (fun _ => rfl) (fun _ => rfl) (fun _ => rfl) (fun _ => rfl) (fun _ => rfl) (fun _ => rfl) (fun _ => rfl)) (FARR_fr (FARR_fr hg7 hf425_ (fun _ => rfl) (fun _ => rfl)) hf426_ (fun _ => rfl) (fun _ => rfl)) (WISHR_fr (WISHR_fr hg8 hf425_ (fun _ => rfl) (fun _ => rfl) (fun _ => rfl) (fun _ => rfl)) hf426_ (fun _ => rfl) (fun _ => rfl) (fun _ => rfl) (fun _ => rfl)) (CIC_fr (CIC_fr hg9 hf425_ rfl rfl rfl rfl (fun _ => rfl) (fun _ => rfl) (fun _ => rfl) (fun _ => rfl) (fun _ => rfl) (fun _ => rfl) (fun _ => rfl) (fun _ => rfl) (fun _ => rfl) (fun _ => rfl)) hf426_ rfl rfl rfl rfl (fun _ => rfl) (fun _ => rfl) (fun _ => rfl) (fun _ => rfl) (fun _ => rfl) (fun _ => rfl) (fun _ => rfl) (fun _ => rfl) (fun _ => rfl) (fun _ => rfl)) (STR_fr (STR_fr hg10 hf425_ rfl rfl rfl (fun _ => rfl) (fun _ => rfl) rfl rfl (fun _ => rfl) (fun _ => rfl) (fun _ => rfl) (fun _ => rfl) (fun _ => rfl) (fun _ => rfl) (fun _ => rfl) (fun _ => rfl) (fun _ => rfl) (fun _ => rfl) (fun _ => rfl) rfl rfl (fun _ => rfl) (fun _ => rfl) (fun _ => rfl) (fun _ => rfl) (fun _ => rfl) (fun _ => rfl) rfl (fun _ => rfl) (fun _ => rfl) rfl rfl rfl rfl rfl rfl (fun _ => rfl) (fun _ => rfl) (fun _ => rfl) (fun _ => rfl) (fun _ => rfl) (fun _ => rfl) (fun _ => rfl) (fun _ => rfl) (fun _ => rfl) (fun _ => rfl) (fun _ => rfl) (fun _ => rfl) (fun _ => rfl) (fun _ => rfl) (fun _ => rfl) (fun _ => rfl) (fun _ => rfl) (fun _ => rfl) (fun _ => rfl) (fun _ => rfl)) hf426_ rfl rfl rfl (fun _ => rfl) (fun _ => rfl) rfl rfl (fun _ => rfl) (fun _ => rfl) (fun _ => rfl) (fun _ => rfl) (fun _ => rfl) (fun _ => rfl) (fun _ => rfl) (fun _ => rfl) (fun _ => rfl) (fun _ => rfl) (fun _ => rfl) rfl rfl (fun _ => rfl) (fun _ => rfl) (fun _ => rfl) (fun _ => rfl) (fun _ => rfl) (fun _ => rfl) rfl (fun _ => rfl) (fun _ => rfl) rfl rfl rfl rfl rfl rfl (fun _ => rfl) (fun _ => rfl) (fun _ => rfl) (fun _ => rfl) (fun _ => rfl) (fun _ => rfl) (fun _ => rfl) (fun _ => rfl) (fun _ => rfl) (fun _ => rfl) (fun _ => rfl) (fun _ => rfl) (fun _ => rfl) (fun _ => rfl) (fun _ => rfl) (fun _ => rfl) (fun _ => rfl) (fun _ => rfl) (fun _ => rfl) (fun _ => rfl)) (show a426_ 0 0 = a426_ 146 0 from by omega) (show a426_ 4 6 = a426_ 146 2 from by omega) (show a426_ 2 1 = a426_ 146 22 from by omega) (show a426_ 105 5 = a426_ 146 68 from by omega)
theorem lw_op523 (E : jxE) (d : Nat) (hd : Nat.ble 60 (d + 1) = true) (hL : E.1 ≤ 3072) (y3 : Int) (hy0 : 0 ≤ y3) (hy1 : y3 + 6 ≤ E.1) (hnext : ∀ (a b : Nat → Nat → Int) (hv : iv a) (hg0 : WFW a) (hg1 : SV a) (hg2 : OC a) (hg3 : FO a) (hg4 : FW a) (hg5 : TAPE a) (hg6 : MEMR a) (hg7 : FARR a) (hg8 : WISHR a) (hg9 : CIC a) (hg10 : STR a) (hr0 : a 0 0 = a 146 0) (hr1 : a 4 6 = a 146 2) (hr2 : a 2 1 = a 146 22) (hr3 : a 105 5 = a 146 68), jt (jxX E d 305 1189 [some (.inr (.inr (.inl 3000))), some (.inr (.inr (.inl 0))), some (.inr (.inr (.inl 146))), some (.inl y3)] [] (jxSH, a, b)) (fun v _ _ => v = [.inl 1])) (a b : Nat → Nat → Int) (hv : iv a) (hg0 : WFW a) (hg1 : SV a) (hg2 : OC a) (hg3 : FO a) (hg4 : FW a) (hg5 : TAPE a) (hg6 : MEMR a) (hg7 : FARR a) (hg8 : WISHR a) (hg9 : CIC a) (hg10 : STR a) (hr0 : a 0 0 = a 146 0) (hr1 : a 4 6 = a 146 2) (hr2 : a 2 1 = a 146 22) (hr3 : a 105 5 = a 146 68) : jt (jxX E d 305 523 [some (.inr (.inr (.inl 3000))), some (.inr (.inr (.inl 0))), some (.inr (.inr (.inl 146))), some (.inl y3)] [] (jxSH, a, b)) (fun v _ _ => v = [.inl 1]) := by
  refine jt_eq (bq_law_523 E d y3 a b) ?_
  have h459_ := iv_get hv (k := 0) (j := 0) (l := 0) (u := 1999) rfl
  have h460_ := iv_get hv (k := 146) (j := 0) (l := 0) (u := 1999) rfl
  have h461_ := iv_get hv (k := 4) (j := 6) (l := 0) (u := 40) rfl
  have h462_ := iv_get hv (k := 146) (j := 2) (l := 0) (u := 40) rfl
  have h463_ := iv_get hv (k := 2) (j := 1) (l := 0) (u := 200) rfl
  have h464_ := iv_get hv (k := 146) (j := 22) (l := 0) (u := 200) rfl
  have h465_ := iv_get hv (k := 105) (j := 5) (l := 0) (u := 10) rfl
  have h466_ := iv_get hv (k := 146) (j := 68) (l := 0) (u := 10) rfl
  have hBAS : BAS a := ⟨hv, hr0, hr1, hg6, hg7, hg8⟩
  have hring := AL_ring (b := b) (b2 := b) hBAS hg10 ((E.2 ((jxw (y3 + 1)).toNat))) ((E.2 ((jxw (y3 + 2)).toNat)))
  refine jt_bif (Nat.ble_eq_true_of_le (by omega)) ?_
  have h467_ : jxw (y3 + 1) = y3 + 1 := jxw_id (by omega) (by omega)
  refine jt_grd (by omega) ?_
  refine jt_bI (sq_X11_list E d (jd_le hd rfl) (E.2 ((jxw (y3 + 1)).toNat)) a b hv) (fun r468_ a468_ b468_ h468_ => ?_)
  obtain ⟨hv468_, hf468_, rfl, hq468_0, hq468_1⟩ := h468_
  refine jt_eq (bq_law_533 E d y3 a468_ b) ?_
  refine jt_bif (Nat.ble_eq_true_of_le (by omega)) ?_
  refine jt_grd (by omega) ?_
  refine jt_bI (sq_X12_list E d (jd_le hd rfl) (E.2 ((jxw (y3 + 1)).toNat)) a468_ b hv468_) (fun r469_ a469_ b469_ h469_ => ?_)
  obtain ⟨hv469_, hf469_, rfl, hq469_0, hq469_1⟩ := h469_
  have h470_ := iv_get hv468_ (k := 146) (j := 2) (l := 0) (u := 40) rfl
  have h471_ : a468_ 146 2 = a 146 2 := hf468_ 146 2 rfl
  have hL469 := ST_list hBAS hg10 ⟨(CLS_fr hf468_ rfl), (RFS_fr hf469_ rfl), (KOF_fr hf468_ rfl), (KOFr_fr hf469_ rfl), (KFD_fr hf468_ rfl), (KFDr_fr hf469_ rfl), (KB_fr hf468_ rfl rfl), (KBr_fr hf469_ rfl)⟩ (funext fun j => hf468_ 9 j rfl) (funext fun j => hf469_ 153 j rfl) (cvC_fr hf468_ rfl) (cvR_fr hf469_ rfl) hq468_1 hq469_1
  have hLr469 : r468_ = r469_ := hL469.1
  have hS469 : STR a469_ := hL469.2
  have h472_ := iv_get hv469_ (k := 0) (j := 0) (l := 0) (u := 1999) rfl
  have h473_ : a469_ 0 0 = a468_ 0 0 := hf469_ 0 0 rfl
  have h474_ := iv_get hv468_ (k := 0) (j := 0) (l := 0) (u := 1999) rfl
  have h475_ : a468_ 0 0 = a 0 0 := hf468_ 0 0 rfl
  have h476_ := iv_get hv469_ (k := 146) (j := 0) (l := 0) (u := 1999) rfl
  have h477_ : a469_ 146 0 = a468_ 146 0 := hf469_ 146 0 rfl
  have h478_ := iv_get hv468_ (k := 146) (j := 0) (l := 0) (u := 1999) rfl
  have h479_ : a468_ 146 0 = a 146 0 := hf468_ 146 0 rfl
  have h480_ := iv_get hv469_ (k := 4) (j := 6) (l := 0) (u := 40) rfl
  have h481_ : a469_ 4 6 = a468_ 4 6 := hf469_ 4 6 rfl
  have h482_ := iv_get hv468_ (k := 4) (j := 6) (l := 0) (u := 40) rfl
  have h483_ : a468_ 4 6 = a 4 6 := hf468_ 4 6 rfl
  have h484_ := iv_get hv469_ (k := 146) (j := 2) (l := 0) (u := 40) rfl
  have h485_ : a469_ 146 2 = a468_ 146 2 := hf469_ 146 2 rfl
  have h486_ := iv_get hv469_ (k := 2) (j := 1) (l := 0) (u := 200) rfl
  have h487_ : a469_ 2 1 = a468_ 2 1 := hf469_ 2 1 rfl
  have h488_ := iv_get hv468_ (k := 2) (j := 1) (l := 0) (u := 200) rfl
  have h489_ : a468_ 2 1 = a 2 1 := hf468_ 2 1 rfl
  have h490_ := iv_get hv469_ (k := 146) (j := 22) (l := 0) (u := 200) rfl
  have h491_ : a469_ 146 22 = a468_ 146 22 := hf469_ 146 22 rfl
  have h492_ := iv_get hv468_ (k := 146) (j := 22) (l := 0) (u := 200) rfl
  have h493_ : a468_ 146 22 = a 146 22 := hf468_ 146 22 rfl
  have h494_ := iv_get hv469_ (k := 105) (j := 5) (l := 0) (u := 10) rfl
  have h495_ : a469_ 105 5 = a468_ 105 5 := hf469_ 105 5 rfl
  have h496_ := iv_get hv468_ (k := 105) (j := 5) (l := 0) (u := 10) rfl
  have h497_ : a468_ 105 5 = a 105 5 := hf468_ 105 5 rfl
  have h498_ := iv_get hv469_ (k := 146) (j := 68) (l := 0) (u := 10) rfl
  have h499_ : a469_ 146 68 = a468_ 146 68 := hf469_ 146 68 rfl
  have h500_ := iv_get hv468_ (k := 146) (j := 68) (l := 0) (u := 10) rfl
  have h501_ : a468_ 146 68 = a 146 68 := hf468_ 146 68 rfl
  exact hnext a469_ b hv469_ (WFW_fr (WFW_fr hg0 hf468_ (fun _ => rfl) (fun _ => rfl)) hf469_ (fun _ => rfl) (fun _ => rfl)) (SV_fr (SV_fr hg1 hf468_ (fun _ => rfl) (fun _ => rfl)) hf469_ (fun _ => rfl) (fun _ => rfl)) (OC_fr (OC_fr hg2 hf468_ rfl rfl (fun _ => rfl) (fun _ => rfl) (fun _ => rfl) (fun _ => rfl) (fun _ => rfl)) hf469_ rfl rfl (fun _ => rfl) (fun _ => rfl) (fun _ => rfl) (fun _ => rfl) (fun _ => rfl)) (FO_fr (FO_fr hg3 hf468_ rfl rfl (fun _ => rfl)) hf469_ rfl rfl (fun _ => rfl)) (FW_fr (FW_fr hg4 hf468_ rfl (fun _ => rfl)) hf469_ rfl (fun _ => rfl)) (TAPE_fr (TAPE_fr hg5 hf468_ (fun _ => rfl) (fun _ => rfl)) hf469_ (fun _ => rfl) (fun _ => rfl)) (MEMR_fr (MEMR_fr hg6 hf468_ (fun _ => rfl) (fun _ => rfl) (fun _ => rfl) (fun _ => rfl) (fun _ => rfl) (fun _ => rfl) (fun _ => rfl) (fun _ => rfl) (fun _ => rfl) (fun _ => rfl)) hf469_ (fun _ => rfl) (fun _ => rfl) (fun _ => rfl) (fun _ => rfl) (fun _ => rfl) (fun _ => rfl) (fun _ => rfl) (fun _ => rfl) (fun _ => rfl) (fun _ => rfl)) (FARR_fr (FARR_fr hg7 hf468_ (fun _ => rfl) (fun _ => rfl)) hf469_ (fun _ => rfl) (fun _ => rfl)) (WISHR_fr (WISHR_fr hg8 hf468_ (fun _ => rfl) (fun _ => rfl) (fun _ => rfl) (fun _ => rfl)) hf469_ (fun _ => rfl) (fun _ => rfl) (fun _ => rfl) (fun _ => rfl)) hS469.1.2.2.1 hS469 (show a469_ 0 0 = a469_ 146 0 from by omega) (show a469_ 4 6 = a469_ 146 2 from by omega) (show a469_ 2 1 = a469_ 146 22 from by omega) (show a469_ 105 5 = a469_ 146 68 from by omega)
theorem lw_op546 (E : jxE) (d : Nat) (hd : Nat.ble 60 (d + 1) = true) (hL : E.1 ≤ 3072) (y3 : Int) (hy0 : 0 ≤ y3) (hy1 : y3 + 6 ≤ E.1) (hnext : ∀ (a b : Nat → Nat → Int) (hv : iv a) (hg0 : WFW a) (hg1 : SV a) (hg2 : OC a) (hg3 : FO a) (hg4 : FW a) (hg5 : TAPE a) (hg6 : MEMR a) (hg7 : FARR a) (hg8 : WISHR a) (hg9 : CIC a) (hg10 : STR a) (hr0 : a 0 0 = a 146 0) (hr1 : a 4 6 = a 146 2) (hr2 : a 2 1 = a 146 22) (hr3 : a 105 5 = a 146 68), jt (jxX E d 305 1189 [some (.inr (.inr (.inl 3000))), some (.inr (.inr (.inl 0))), some (.inr (.inr (.inl 146))), some (.inl y3)] [] (jxSH, a, b)) (fun v _ _ => v = [.inl 1])) (a b : Nat → Nat → Int) (hv : iv a) (hg0 : WFW a) (hg1 : SV a) (hg2 : OC a) (hg3 : FO a) (hg4 : FW a) (hg5 : TAPE a) (hg6 : MEMR a) (hg7 : FARR a) (hg8 : WISHR a) (hg9 : CIC a) (hg10 : STR a) (hr0 : a 0 0 = a 146 0) (hr1 : a 4 6 = a 146 2) (hr2 : a 2 1 = a 146 22) (hr3 : a 105 5 = a 146 68) : jt (jxX E d 305 546 [some (.inr (.inr (.inl 3000))), some (.inr (.inr (.inl 0))), some (.inr (.inr (.inl 146))), some (.inl y3)] [] (jxSH, a, b)) (fun v _ _ => v = [.inl 1]) := by
  refine jt_eq (bq_law_546 E d y3 a b) ?_
  have h502_ := iv_get hv (k := 0) (j := 0) (l := 0) (u := 1999) rfl
  have h503_ := iv_get hv (k := 146) (j := 0) (l := 0) (u := 1999) rfl
  have h504_ := iv_get hv (k := 4) (j := 6) (l := 0) (u := 40) rfl
  have h505_ := iv_get hv (k := 146) (j := 2) (l := 0) (u := 40) rfl
  have h506_ := iv_get hv (k := 2) (j := 1) (l := 0) (u := 200) rfl
  have h507_ := iv_get hv (k := 146) (j := 22) (l := 0) (u := 200) rfl
  have h508_ := iv_get hv (k := 105) (j := 5) (l := 0) (u := 10) rfl
  have h509_ := iv_get hv (k := 146) (j := 68) (l := 0) (u := 10) rfl
  have hBAS : BAS a := ⟨hv, hr0, hr1, hg6, hg7, hg8⟩
  have hring := AL_ring (b := b) (b2 := b) hBAS hg10 ((E.2 ((jxw (y3 + 1)).toNat))) ((E.2 ((jxw (y3 + 2)).toNat)))
  refine jt_bI (sp_X11_give E d (jd_le hd rfl) a b hv hg8) (fun r510_ a510_ b510_ h510_ => ?_)
  obtain ⟨hv510_, hf510_, hq510_0, hq510_1, hq510_2⟩ := h510_
  have h511_ := iv_get hv (k := 0) (j := 9) (l := 0) (u := 8) rfl
  refine jt_eq (bq_law_551 E d y3 a510_ b510_) ?_
  refine jt_bI (sp_X12_give E d (jd_le hd rfl) a510_ b510_ hv510_ (WFW_fr hg0 hf510_ (fun _ => rfl) (fun _ => rfl)) (OC_fr hg2 hf510_ rfl rfl (fun _ => rfl) (fun _ => rfl) (fun _ => rfl) (fun _ => rfl) (fun _ => rfl)) (WISHR_fr hg8 hf510_ (fun _ => rfl) (fun _ => rfl) (fun _ => rfl) (fun _ => rfl))) (fun r512_ a512_ b512_ h512_ => ?_)
  obtain ⟨hv512_, hf512_, hq512_0, hq512_1, hq512_2, hq512_3⟩ := h512_
  have h513_ := iv_get hv510_ (k := 146) (j := 42) (l := 0) (u := 8) rfl
  have h514_ : a510_ 146 42 = a 146 42 := hf510_ 146 42 rfl
  have h515_ := iv_get hv (k := 146) (j := 42) (l := 0) (u := 8) rfl
  have hL512 := ST_give hBAS hg10 ⟨(CLS_fr hf510_ rfl), (RFS_fr hf512_ rfl), (KOF_fr hf510_ rfl), (KOFr_fr hf512_ rfl), (KFD_fr hf510_ rfl), (KFDr_fr hf512_ rfl), (KB_fr hf510_ rfl rfl), (KBr_fr hf512_ rfl)⟩ (funext fun j => hf510_ 9 j rfl) (funext fun j => hf512_ 153 j rfl) (funext fun j => hf510_ 76 j rfl) (funext fun j => hf512_ 173 j rfl) hq510_1 hq510_2 hq512_2 hq512_3
  have hLr512 : r510_ = r512_ := hL512.1
  have hS512 : STR a512_ := hL512.2
  have h516_ := iv_get hv512_ (k := 0) (j := 0) (l := 0) (u := 1999) rfl
  have h517_ : a512_ 0 0 = a510_ 0 0 := hf512_ 0 0 rfl
  have h518_ := iv_get hv510_ (k := 0) (j := 0) (l := 0) (u := 1999) rfl
  have h519_ : a510_ 0 0 = a 0 0 := hf510_ 0 0 rfl
  have h520_ := iv_get hv512_ (k := 146) (j := 0) (l := 0) (u := 1999) rfl
  have h521_ : a512_ 146 0 = a510_ 146 0 := hf512_ 146 0 rfl
  have h522_ := iv_get hv510_ (k := 146) (j := 0) (l := 0) (u := 1999) rfl
  have h523_ : a510_ 146 0 = a 146 0 := hf510_ 146 0 rfl
  have h524_ := iv_get hv512_ (k := 4) (j := 6) (l := 0) (u := 40) rfl
  have h525_ : a512_ 4 6 = a510_ 4 6 := hf512_ 4 6 rfl
  have h526_ := iv_get hv510_ (k := 4) (j := 6) (l := 0) (u := 40) rfl
  have h527_ : a510_ 4 6 = a 4 6 := hf510_ 4 6 rfl
  have h528_ := iv_get hv512_ (k := 146) (j := 2) (l := 0) (u := 40) rfl
  have h529_ : a512_ 146 2 = a510_ 146 2 := hf512_ 146 2 rfl
  have h530_ := iv_get hv510_ (k := 146) (j := 2) (l := 0) (u := 40) rfl
  have h531_ : a510_ 146 2 = a 146 2 := hf510_ 146 2 rfl
  have h532_ := iv_get hv512_ (k := 2) (j := 1) (l := 0) (u := 200) rfl
  have h533_ : a512_ 2 1 = a510_ 2 1 := hf512_ 2 1 rfl
  have h534_ := iv_get hv510_ (k := 2) (j := 1) (l := 0) (u := 200) rfl
  have h535_ : a510_ 2 1 = a 2 1 := hf510_ 2 1 rfl
  have h536_ := iv_get hv512_ (k := 146) (j := 22) (l := 0) (u := 200) rfl
  have h537_ : a512_ 146 22 = a510_ 146 22 := hf512_ 146 22 rfl
  have h538_ := iv_get hv510_ (k := 146) (j := 22) (l := 0) (u := 200) rfl
  have h539_ : a510_ 146 22 = a 146 22 := hf510_ 146 22 rfl
  have h540_ := iv_get hv512_ (k := 105) (j := 5) (l := 0) (u := 10) rfl
  have h541_ : a512_ 105 5 = a510_ 105 5 := hf512_ 105 5 rfl
  have h542_ := iv_get hv510_ (k := 105) (j := 5) (l := 0) (u := 10) rfl
  have h543_ : a510_ 105 5 = a 105 5 := hf510_ 105 5 rfl
  have h544_ := iv_get hv512_ (k := 146) (j := 68) (l := 0) (u := 10) rfl
  have h545_ : a512_ 146 68 = a510_ 146 68 := hf512_ 146 68 rfl
  have h546_ := iv_get hv510_ (k := 146) (j := 68) (l := 0) (u := 10) rfl
  have h547_ : a510_ 146 68 = a 146 68 := hf510_ 146 68 rfl
  exact hnext a512_ b512_ hv512_ (WFW_fr (WFW_fr hg0 hf510_ (fun _ => rfl) (fun _ => rfl)) hf512_ (fun _ => rfl) (fun _ => rfl)) (SV_fr (SV_fr hg1 hf510_ (fun _ => rfl) (fun _ => rfl)) hf512_ (fun _ => rfl) (fun _ => rfl)) hq512_0 (FO_fr (FO_fr hg3 hf510_ rfl rfl (fun _ => rfl)) hf512_ rfl rfl (fun _ => rfl)) (FW_fr (FW_fr hg4 hf510_ rfl (fun _ => rfl)) hf512_ rfl (fun _ => rfl)) (TAPE_fr (TAPE_fr hg5 hf510_ (fun _ => rfl) (fun _ => rfl)) hf512_ (fun _ => rfl) (fun _ => rfl)) (MEMR_fr (MEMR_fr hg6 hf510_ (fun _ => rfl) (fun _ => rfl) (fun _ => rfl) (fun _ => rfl) (fun _ => rfl) (fun _ => rfl) (fun _ => rfl) (fun _ => rfl) (fun _ => rfl) (fun _ => rfl)) hf512_ (fun _ => rfl) (fun _ => rfl) (fun _ => rfl) (fun _ => rfl) (fun _ => rfl) (fun _ => rfl) (fun _ => rfl) (fun _ => rfl) (fun _ => rfl) (fun _ => rfl)) (FARR_fr (FARR_fr hg7 hf510_ (fun _ => rfl) (fun _ => rfl)) hf512_ (fun _ => rfl) (fun _ => rfl)) (WISHR_fr (WISHR_fr hg8 hf510_ (fun _ => rfl) (fun _ => rfl) (fun _ => rfl) (fun _ => rfl)) hf512_ (fun _ => rfl) (fun _ => rfl) (fun _ => rfl) (fun _ => rfl)) hS512.1.2.2.1 hS512 (show a512_ 0 0 = a512_ 146 0 from by omega) (show a512_ 4 6 = a512_ 146 2 from by omega) (show a512_ 2 1 = a512_ 146 22 from by omega) (show a512_ 105 5 = a512_ 146 68 from by omega)
theorem lw_op559 (E : jxE) (d : Nat) (hd : Nat.ble 60 (d + 1) = true) (hL : E.1 ≤ 3072) (y3 : Int) (hy0 : 0 ≤ y3) (hy1 : y3 + 6 ≤ E.1) (hnext : ∀ (a b : Nat → Nat → Int) (hv : iv a) (hg0 : WFW a) (hg1 : SV a) (hg2 : OC a) (hg3 : FO a) (hg4 : FW a) (hg5 : TAPE a) (hg6 : MEMR a) (hg7 : FARR a) (hg8 : WISHR a) (hg9 : CIC a) (hg10 : STR a) (hr0 : a 0 0 = a 146 0) (hr1 : a 4 6 = a 146 2) (hr2 : a 2 1 = a 146 22) (hr3 : a 105 5 = a 146 68), jt (jxX E d 305 1189 [some (.inr (.inr (.inl 3000))), some (.inr (.inr (.inl 0))), some (.inr (.inr (.inl 146))), some (.inl y3)] [] (jxSH, a, b)) (fun v _ _ => v = [.inl 1])) (a b : Nat → Nat → Int) (hv : iv a) (hg0 : WFW a) (hg1 : SV a) (hg2 : OC a) (hg3 : FO a) (hg4 : FW a) (hg5 : TAPE a) (hg6 : MEMR a) (hg7 : FARR a) (hg8 : WISHR a) (hg9 : CIC a) (hg10 : STR a) (hr0 : a 0 0 = a 146 0) (hr1 : a 4 6 = a 146 2) (hr2 : a 2 1 = a 146 22) (hr3 : a 105 5 = a 146 68) : jt (jxX E d 305 559 [some (.inr (.inr (.inl 3000))), some (.inr (.inr (.inl 0))), some (.inr (.inr (.inl 146))), some (.inl y3)] [] (jxSH, a, b)) (fun v _ _ => v = [.inl 1]) := by
  refine jt_eq (bq_law_559 E d y3 a b) ?_
  have h548_ := iv_get hv (k := 0) (j := 0) (l := 0) (u := 1999) rfl
  have h549_ := iv_get hv (k := 146) (j := 0) (l := 0) (u := 1999) rfl
  have h550_ := iv_get hv (k := 4) (j := 6) (l := 0) (u := 40) rfl
  have h551_ := iv_get hv (k := 146) (j := 2) (l := 0) (u := 40) rfl
  have h552_ := iv_get hv (k := 2) (j := 1) (l := 0) (u := 200) rfl
  have h553_ := iv_get hv (k := 146) (j := 22) (l := 0) (u := 200) rfl
  have h554_ := iv_get hv (k := 105) (j := 5) (l := 0) (u := 10) rfl
  have h555_ := iv_get hv (k := 146) (j := 68) (l := 0) (u := 10) rfl
  have hBAS : BAS a := ⟨hv, hr0, hr1, hg6, hg7, hg8⟩
  have hring := AL_ring (b := b) (b2 := b) hBAS hg10 ((E.2 ((jxw (y3 + 1)).toNat))) ((E.2 ((jxw (y3 + 2)).toNat)))
  refine jt_bif (Nat.ble_eq_true_of_le (by omega)) ?_
  have h556_ : jxw (y3 + 1) = y3 + 1 := jxw_id (by omega) (by omega)
  refine jt_grd (by omega) ?_
  refine jt_bif (Nat.ble_eq_true_of_le (by omega)) ?_
  have h557_ : jxw (y3 + 2) = y3 + 2 := jxw_id (by omega) (by omega)
  refine jt_grd (by omega) ?_
  refine jt_bI (sp_X11_arrive E d (jd_le hd rfl) (E.2 ((jxw (y3 + 1)).toNat)) (E.2 ((jxw (y3 + 2)).toNat)) a b hv) (fun r558_ a558_ b558_ h558_ => ?_)
  obtain ⟨hv558_, hf558_, rfl, hq558_0, hq558_1, hq558_2, hq558_3, hq558_4⟩ := h558_
  have h559_ := iv_get hv (k := 58) (j := 8) (l := 0) (u := 300) rfl
  have h560_ := iv_get hv (k := 58) (j := 12) (l := 0) (u := 600) rfl
  refine jt_eq (bq_law_574 E d y3 a558_ b) ?_
  refine jt_bif (Nat.ble_eq_true_of_le (by omega)) ?_
  refine jt_grd (by omega) ?_
  refine jt_bif (Nat.ble_eq_true_of_le (by omega)) ?_
  refine jt_grd (by omega) ?_
  refine jt_bI (sp_X12_arrive E d (jd_le hd rfl) (E.2 ((jxw (y3 + 1)).toNat)) (E.2 ((jxw (y3 + 2)).toNat)) a558_ b hv558_) (fun r561_ a561_ b561_ h561_ => ?_)
  obtain ⟨hv561_, hf561_, rfl, hq561_0, hq561_1, hq561_2, hq561_3, hq561_4⟩ := h561_
  have h562_ := iv_get hv558_ (k := 146) (j := 9) (l := 0) (u := 300) rfl
  have h563_ : a558_ 146 9 = a 146 9 := hf558_ 146 9 rfl
  have h564_ := iv_get hv (k := 146) (j := 9) (l := 0) (u := 300) rfl
  have h565_ : a558_ 159 ((E.2 ((jxw (y3 + 1)).toNat)).toNat) = a 159 ((E.2 ((jxw (y3 + 1)).toNat)).toNat) := hf558_ 159 ((E.2 ((jxw (y3 + 1)).toNat)).toNat) rfl
  have h566_ := iv_get hv558_ (k := 146) (j := 17) (l := 0) (u := 600) rfl
  have h567_ : a558_ 146 17 = a 146 17 := hf558_ 146 17 rfl
  have h568_ := iv_get hv (k := 146) (j := 17) (l := 0) (u := 600) rfl
  have h569_ := iv_get hv558_ (k := 156) (j := (E.2 ((jxw (y3 + 1)).toNat)).toNat) (l := 0) (u := 1999) rfl
  have h570_ : a558_ 156 ((E.2 ((jxw (y3 + 1)).toNat)).toNat) = a 156 ((E.2 ((jxw (y3 + 1)).toNat)).toNat) := hf558_ 156 ((E.2 ((jxw (y3 + 1)).toNat)).toNat) rfl
  have h571_ := iv_get hv (k := 156) (j := (E.2 ((jxw (y3 + 1)).toNat)).toNat) (l := 0) (u := 1999) rfl
  have h572_ := iv_get hv558_ (k := 146) (j := 0) (l := 0) (u := 1999) rfl
  have h573_ : a558_ 146 0 = a 146 0 := hf558_ 146 0 rfl
  have z1_561 := hf558_ 159 ((E.2 ((jxw (y3 + 1)).toNat))).toNat rfl
  have z2_561 := hf558_ 156 ((E.2 ((jxw (y3 + 1)).toNat))).toNat rfl
  have z3_561 := hf558_ 146 9 rfl
  have z4_561 := hf558_ 146 17 rfl
  have z5_561 := hf558_ 146 0 rfl
  have z6_561 := AL_n hg10.1
  have z7_561 : a 64 ((E.2 ((jxw (y3 + 1)).toNat))).toNat = a 159 ((E.2 ((jxw (y3 + 1)).toNat))).toNat := congrFun (congrArg vOf hg10.1.1) _
  have z8_561 : a 61 ((E.2 ((jxw (y3 + 1)).toNat))).toNat = a 156 ((E.2 ((jxw (y3 + 1)).toNat))).toNat := congrFun (congrArg vSn hg10.1.1) _
  have z9_561 : a 58 12 ≤ 600 := (CI_n hg10.1.2.2.1).2.2.2
  have hL561 := ST_tell hBAS hg10 ⟨(CLS_fr hf558_ rfl), (RFS_fr hf561_ rfl), (KOF_fr hf558_ rfl), (KOFr_fr hf561_ rfl), (KFD_fr hf558_ rfl), (KFDr_fr hf561_ rfl), (KB_fr hf558_ rfl rfl), (KBr_fr hf561_ rfl)⟩ (funext fun j => hf558_ 9 j rfl) (funext fun j => hf561_ 153 j rfl) (KLS_fr hf558_ rfl) (KLSr_fr hf561_ rfl) (x := (E.2 ((jxw (y3 + 1)).toNat))) (d := (E.2 ((jxw (y3 + 2)).toNat))) (P := (0 ≤ (E.2 ((jxw (y3 + 1)).toNat)) ∧ (E.2 ((jxw (y3 + 1)).toNat)) < a 58 8 ∧ a 64 ((E.2 ((jxw (y3 + 1)).toNat))).toNat = -1 ∧ a 58 12 < 600 ∧ a 61 ((E.2 ((jxw (y3 + 1)).toNat))).toNat ≤ (E.2 ((jxw (y3 + 2)).toNat)) ∧ (E.2 ((jxw (y3 + 2)).toNat)) ≤ a 0 0)) (Q := (0 ≤ (E.2 ((jxw (y3 + 1)).toNat)) ∧ (E.2 ((jxw (y3 + 1)).toNat)) < a 58 8 ∧ a 64 ((E.2 ((jxw (y3 + 1)).toNat))).toNat = -1 ∧ a 58 12 < 600 ∧ a 61 ((E.2 ((jxw (y3 + 1)).toNat))).toNat ≤ (E.2 ((jxw (y3 + 2)).toNat)) ∧ (E.2 ((jxw (y3 + 2)).toNat)) ≤ a 0 0)) (by omega) (by omega) (by omega) (by omega) Iff.rfl (fun h => ⟨⟨h.1, h.2.1⟩, h.2.2.2.1, h.2.2.1, Or.inr ⟨h.2.2.2.2.1, h.2.2.2.2.2⟩⟩) hq558_3 hq558_4 hq561_3 hq561_4
  have hLr561 : r558_ = r561_ := hL561.1
  have hS561 : STR a561_ := hL561.2
  have h574_ := iv_get hv561_ (k := 0) (j := 0) (l := 0) (u := 1999) rfl
  have h575_ : a561_ 0 0 = a558_ 0 0 := hf561_ 0 0 rfl
  have h576_ := iv_get hv558_ (k := 0) (j := 0) (l := 0) (u := 1999) rfl
  have h577_ : a558_ 0 0 = a 0 0 := hf558_ 0 0 rfl
  have h578_ := iv_get hv561_ (k := 146) (j := 0) (l := 0) (u := 1999) rfl
  have h579_ : a561_ 146 0 = a558_ 146 0 := hf561_ 146 0 rfl
  have h580_ := iv_get hv561_ (k := 4) (j := 6) (l := 0) (u := 40) rfl
  have h581_ : a561_ 4 6 = a558_ 4 6 := hf561_ 4 6 rfl
  have h582_ := iv_get hv558_ (k := 4) (j := 6) (l := 0) (u := 40) rfl
  have h583_ : a558_ 4 6 = a 4 6 := hf558_ 4 6 rfl
  have h584_ := iv_get hv561_ (k := 146) (j := 2) (l := 0) (u := 40) rfl
  have h585_ : a561_ 146 2 = a558_ 146 2 := hf561_ 146 2 rfl
  have h586_ := iv_get hv558_ (k := 146) (j := 2) (l := 0) (u := 40) rfl
  have h587_ : a558_ 146 2 = a 146 2 := hf558_ 146 2 rfl
  have h588_ := iv_get hv561_ (k := 2) (j := 1) (l := 0) (u := 200) rfl
  have h589_ : a561_ 2 1 = a558_ 2 1 := hf561_ 2 1 rfl
  have h590_ := iv_get hv558_ (k := 2) (j := 1) (l := 0) (u := 200) rfl
  have h591_ : a558_ 2 1 = a 2 1 := hf558_ 2 1 rfl
  have h592_ := iv_get hv561_ (k := 146) (j := 22) (l := 0) (u := 200) rfl
  have h593_ : a561_ 146 22 = a558_ 146 22 := hf561_ 146 22 rfl
  have h594_ := iv_get hv558_ (k := 146) (j := 22) (l := 0) (u := 200) rfl
  have h595_ : a558_ 146 22 = a 146 22 := hf558_ 146 22 rfl
  have h596_ := iv_get hv561_ (k := 105) (j := 5) (l := 0) (u := 10) rfl
  have h597_ : a561_ 105 5 = a558_ 105 5 := hf561_ 105 5 rfl
  have h598_ := iv_get hv558_ (k := 105) (j := 5) (l := 0) (u := 10) rfl
  have h599_ : a558_ 105 5 = a 105 5 := hf558_ 105 5 rfl
  have h600_ := iv_get hv561_ (k := 146) (j := 68) (l := 0) (u := 10) rfl
  have h601_ : a561_ 146 68 = a558_ 146 68 := hf561_ 146 68 rfl
  have h602_ := iv_get hv558_ (k := 146) (j := 68) (l := 0) (u := 10) rfl
  have h603_ : a558_ 146 68 = a 146 68 := hf558_ 146 68 rfl
  exact hnext a561_ b hv561_ (WFW_fr (WFW_fr hg0 hf558_ (fun _ => rfl) (fun _ => rfl)) hf561_ (fun _ => rfl) (fun _ => rfl)) (SV_fr (SV_fr hg1 hf558_ (fun _ => rfl) (fun _ => rfl)) hf561_ (fun _ => rfl) (fun _ => rfl)) (OC_fr (OC_fr hg2 hf558_ rfl rfl (fun _ => rfl) (fun _ => rfl) (fun _ => rfl) (fun _ => rfl) (fun _ => rfl)) hf561_ rfl rfl (fun _ => rfl) (fun _ => rfl) (fun _ => rfl) (fun _ => rfl) (fun _ => rfl)) (FO_fr (FO_fr hg3 hf558_ rfl rfl (fun _ => rfl)) hf561_ rfl rfl (fun _ => rfl)) (FW_fr (FW_fr hg4 hf558_ rfl (fun _ => rfl)) hf561_ rfl (fun _ => rfl)) (TAPE_fr (TAPE_fr hg5 hf558_ (fun _ => rfl) (fun _ => rfl)) hf561_ (fun _ => rfl) (fun _ => rfl)) (MEMR_fr (MEMR_fr hg6 hf558_ (fun _ => rfl) (fun _ => rfl) (fun _ => rfl) (fun _ => rfl) (fun _ => rfl) (fun _ => rfl) (fun _ => rfl) (fun _ => rfl) (fun _ => rfl) (fun _ => rfl)) hf561_ (fun _ => rfl) (fun _ => rfl) (fun _ => rfl) (fun _ => rfl) (fun _ => rfl) (fun _ => rfl) (fun _ => rfl) (fun _ => rfl) (fun _ => rfl) (fun _ => rfl)) (FARR_fr (FARR_fr hg7 hf558_ (fun _ => rfl) (fun _ => rfl)) hf561_ (fun _ => rfl) (fun _ => rfl)) (WISHR_fr (WISHR_fr hg8 hf558_ (fun _ => rfl) (fun _ => rfl) (fun _ => rfl) (fun _ => rfl)) hf561_ (fun _ => rfl) (fun _ => rfl) (fun _ => rfl) (fun _ => rfl)) hS561.1.2.2.1 hS561 (show a561_ 0 0 = a561_ 146 0 from by omega) (show a561_ 4 6 = a561_ 146 2 from by omega) (show a561_ 2 1 = a561_ 146 22 from by omega) (show a561_ 105 5 = a561_ 146 68 from by omega)
theorem lw_op592 (E : jxE) (d : Nat) (hd : Nat.ble 60 (d + 1) = true) (hL : E.1 ≤ 3072) (y3 : Int) (hy0 : 0 ≤ y3) (hy1 : y3 + 6 ≤ E.1) (hnext : ∀ (a b : Nat → Nat → Int) (hv : iv a) (hg0 : WFW a) (hg1 : SV a) (hg2 : OC a) (hg3 : FO a) (hg4 : FW a) (hg5 : TAPE a) (hg6 : MEMR a) (hg7 : FARR a) (hg8 : WISHR a) (hg9 : CIC a) (hg10 : STR a) (hr0 : a 0 0 = a 146 0) (hr1 : a 4 6 = a 146 2) (hr2 : a 2 1 = a 146 22) (hr3 : a 105 5 = a 146 68), jt (jxX E d 305 1189 [some (.inr (.inr (.inl 3000))), some (.inr (.inr (.inl 0))), some (.inr (.inr (.inl 146))), some (.inl y3)] [] (jxSH, a, b)) (fun v _ _ => v = [.inl 1])) (a b : Nat → Nat → Int) (hv : iv a) (hg0 : WFW a) (hg1 : SV a) (hg2 : OC a) (hg3 : FO a) (hg4 : FW a) (hg5 : TAPE a) (hg6 : MEMR a) (hg7 : FARR a) (hg8 : WISHR a) (hg9 : CIC a) (hg10 : STR a) (hr0 : a 0 0 = a 146 0) (hr1 : a 4 6 = a 146 2) (hr2 : a 2 1 = a 146 22) (hr3 : a 105 5 = a 146 68) : jt (jxX E d 305 592 [some (.inr (.inr (.inl 3000))), some (.inr (.inr (.inl 0))), some (.inr (.inr (.inl 146))), some (.inl y3)] [] (jxSH, a, b)) (fun v _ _ => v = [.inl 1]) := by
  refine jt_eq (bq_law_592 E d y3 a b) ?_
  have h604_ := iv_get hv (k := 0) (j := 0) (l := 0) (u := 1999) rfl
  have h605_ := iv_get hv (k := 146) (j := 0) (l := 0) (u := 1999) rfl
  have h606_ := iv_get hv (k := 4) (j := 6) (l := 0) (u := 40) rfl
  have h607_ := iv_get hv (k := 146) (j := 2) (l := 0) (u := 40) rfl
  have h608_ := iv_get hv (k := 2) (j := 1) (l := 0) (u := 200) rfl
  have h609_ := iv_get hv (k := 146) (j := 22) (l := 0) (u := 200) rfl
  have h610_ := iv_get hv (k := 105) (j := 5) (l := 0) (u := 10) rfl
  have h611_ := iv_get hv (k := 146) (j := 68) (l := 0) (u := 10) rfl
  have hBAS : BAS a := ⟨hv, hr0, hr1, hg6, hg7, hg8⟩
  have hring := AL_ring (b := b) (b2 := b) hBAS hg10 ((E.2 ((jxw (y3 + 1)).toNat))) ((E.2 ((jxw (y3 + 2)).toNat)))
  refine jt_bif (Nat.ble_eq_true_of_le (by omega)) ?_
  have h612_ : jxw (y3 + 1) = y3 + 1 := jxw_id (by omega) (by omega)
  refine jt_grd (by omega) ?_
  refine jt_bI (sp_X11_back E d (jd_le hd rfl) (E.2 ((jxw (y3 + 1)).toNat)) a b hv) (fun r613_ a613_ b613_ h613_ => ?_)
  obtain ⟨hv613_, hf613_, rfl, hq613_0, hq613_1, hq613_2, hq613_3, hq613_4, hq613_5⟩ := h613_
  have h614_ := iv_get hv (k := 58) (j := 8) (l := 0) (u := 300) rfl
  refine jt_eq (bq_law_602 E d y3 a613_ b) ?_
  refine jt_bif (Nat.ble_eq_true_of_le (by omega)) ?_
  refine jt_grd (by omega) ?_
  refine jt_bI (sp_X12_back E d (jd_le hd rfl) (E.2 ((jxw (y3 + 1)).toNat)) a613_ b hv613_) (fun r615_ a615_ b615_ h615_ => ?_)
  obtain ⟨hv615_, hf615_, rfl, hq615_0, hq615_1, hq615_2, hq615_3, hq615_4, hq615_5⟩ := h615_
  have h616_ := iv_get hv613_ (k := 146) (j := 9) (l := 0) (u := 300) rfl
  have h617_ : a613_ 146 9 = a 146 9 := hf613_ 146 9 rfl
  have h618_ := iv_get hv (k := 146) (j := 9) (l := 0) (u := 300) rfl
  have z1_615 := BK_c (b := b) hg10.1 ((E.2 ((jxw (y3 + 1)).toNat)))
  have z2_615 := BK_r hg10.1 (CLS_fr hf613_ rfl) ((E.2 ((jxw (y3 + 1)).toNat)))
  have hL615 := ST_tell hBAS hg10 ⟨(CLS_fr hf613_ rfl), (RFS_fr hf615_ rfl), (KOF_fr hf613_ rfl), (KOFr_fr hf615_ rfl), (KFD_fr hf613_ rfl), (KFDr_fr hf615_ rfl), (KB_fr hf613_ rfl rfl), (KBr_fr hf615_ rfl)⟩ (funext fun j => hf613_ 9 j rfl) (funext fun j => hf615_ 153 j rfl) (KLS_fr hf613_ rfl) (KLSr_fr hf615_ rfl) (x := (E.2 ((jxw (y3 + 1)).toNat))) (d := -1) (P := BKp a ((E.2 ((jxw (y3 + 1)).toNat)))) (Q := BKp a ((E.2 ((jxw (y3 + 1)).toNat)))) (by omega) (by omega) ⟨fun h => z1_615.1 (hq613_2 h), fun h => Classical.byContradiction (fun z => (hq613_3 (by omega)) (z1_615.2 h))⟩ ⟨fun h => z2_615.1 (hq615_2 h), fun h => Classical.byContradiction (fun z => (hq615_3 (by omega)) (z2_615.2 h))⟩ Iff.rfl (fun h => ⟨⟨h.1, h.2.1⟩, h.2.2.2.1, h.2.2.1, Or.inl rfl⟩) hq613_4 hq613_5 hq615_4 hq615_5
  have hLr615 : r613_ = r615_ := hL615.1
  have hS615 : STR a615_ := hL615.2
  have h619_ := iv_get hv615_ (k := 0) (j := 0) (l := 0) (u := 1999) rfl
  have h620_ : a615_ 0 0 = a613_ 0 0 := hf615_ 0 0 rfl
  have h621_ := iv_get hv613_ (k := 0) (j := 0) (l := 0) (u := 1999) rfl
  have h622_ : a613_ 0 0 = a 0 0 := hf613_ 0 0 rfl
  have h623_ := iv_get hv615_ (k := 146) (j := 0) (l := 0) (u := 1999) rfl
  have h624_ : a615_ 146 0 = a613_ 146 0 := hf615_ 146 0 rfl
  have h625_ := iv_get hv613_ (k := 146) (j := 0) (l := 0) (u := 1999) rfl
  have h626_ : a613_ 146 0 = a 146 0 := hf613_ 146 0 rfl
  have h627_ := iv_get hv615_ (k := 4) (j := 6) (l := 0) (u := 40) rfl
  have h628_ : a615_ 4 6 = a613_ 4 6 := hf615_ 4 6 rfl
  have h629_ := iv_get hv613_ (k := 4) (j := 6) (l := 0) (u := 40) rfl
  have h630_ : a613_ 4 6 = a 4 6 := hf613_ 4 6 rfl
  have h631_ := iv_get hv615_ (k := 146) (j := 2) (l := 0) (u := 40) rfl
  have h632_ : a615_ 146 2 = a613_ 146 2 := hf615_ 146 2 rfl
  have h633_ := iv_get hv613_ (k := 146) (j := 2) (l := 0) (u := 40) rfl
  have h634_ : a613_ 146 2 = a 146 2 := hf613_ 146 2 rfl
  have h635_ := iv_get hv615_ (k := 2) (j := 1) (l := 0) (u := 200) rfl
  have h636_ : a615_ 2 1 = a613_ 2 1 := hf615_ 2 1 rfl
  have h637_ := iv_get hv613_ (k := 2) (j := 1) (l := 0) (u := 200) rfl
  have h638_ : a613_ 2 1 = a 2 1 := hf613_ 2 1 rfl
  have h639_ := iv_get hv615_ (k := 146) (j := 22) (l := 0) (u := 200) rfl
  have h640_ : a615_ 146 22 = a613_ 146 22 := hf615_ 146 22 rfl
  have h641_ := iv_get hv613_ (k := 146) (j := 22) (l := 0) (u := 200) rfl
  have h642_ : a613_ 146 22 = a 146 22 := hf613_ 146 22 rfl
  have h643_ := iv_get hv615_ (k := 105) (j := 5) (l := 0) (u := 10) rfl
  have h644_ : a615_ 105 5 = a613_ 105 5 := hf615_ 105 5 rfl
  have h645_ := iv_get hv613_ (k := 105) (j := 5) (l := 0) (u := 10) rfl
  have h646_ : a613_ 105 5 = a 105 5 := hf613_ 105 5 rfl
  have h647_ := iv_get hv615_ (k := 146) (j := 68) (l := 0) (u := 10) rfl
  have h648_ : a615_ 146 68 = a613_ 146 68 := hf615_ 146 68 rfl
  have h649_ := iv_get hv613_ (k := 146) (j := 68) (l := 0) (u := 10) rfl
  have h650_ : a613_ 146 68 = a 146 68 := hf613_ 146 68 rfl
  exact hnext a615_ b hv615_ (WFW_fr (WFW_fr hg0 hf613_ (fun _ => rfl) (fun _ => rfl)) hf615_ (fun _ => rfl) (fun _ => rfl)) (SV_fr (SV_fr hg1 hf613_ (fun _ => rfl) (fun _ => rfl)) hf615_ (fun _ => rfl) (fun _ => rfl)) (OC_fr (OC_fr hg2 hf613_ rfl rfl (fun _ => rfl) (fun _ => rfl) (fun _ => rfl) (fun _ => rfl) (fun _ => rfl)) hf615_ rfl rfl (fun _ => rfl) (fun _ => rfl) (fun _ => rfl) (fun _ => rfl) (fun _ => rfl)) (FO_fr (FO_fr hg3 hf613_ rfl rfl (fun _ => rfl)) hf615_ rfl rfl (fun _ => rfl)) (FW_fr (FW_fr hg4 hf613_ rfl (fun _ => rfl)) hf615_ rfl (fun _ => rfl)) (TAPE_fr (TAPE_fr hg5 hf613_ (fun _ => rfl) (fun _ => rfl)) hf615_ (fun _ => rfl) (fun _ => rfl)) (MEMR_fr (MEMR_fr hg6 hf613_ (fun _ => rfl) (fun _ => rfl) (fun _ => rfl) (fun _ => rfl) (fun _ => rfl) (fun _ => rfl) (fun _ => rfl) (fun _ => rfl) (fun _ => rfl) (fun _ => rfl)) hf615_ (fun _ => rfl) (fun _ => rfl) (fun _ => rfl) (fun _ => rfl) (fun _ => rfl) (fun _ => rfl) (fun _ => rfl) (fun _ => rfl) (fun _ => rfl) (fun _ => rfl)) (FARR_fr (FARR_fr hg7 hf613_ (fun _ => rfl) (fun _ => rfl)) hf615_ (fun _ => rfl) (fun _ => rfl)) (WISHR_fr (WISHR_fr hg8 hf613_ (fun _ => rfl) (fun _ => rfl) (fun _ => rfl) (fun _ => rfl)) hf615_ (fun _ => rfl) (fun _ => rfl) (fun _ => rfl) (fun _ => rfl)) hS615.1.2.2.1 hS615 (show a615_ 0 0 = a615_ 146 0 from by omega) (show a615_ 4 6 = a615_ 146 2 from by omega) (show a615_ 2 1 = a615_ 146 22 from by omega) (show a615_ 105 5 = a615_ 146 68 from by omega)
theorem lw_op615 (E : jxE) (d : Nat) (hd : Nat.ble 60 (d + 1) = true) (hL : E.1 ≤ 3072) (y3 : Int) (hy0 : 0 ≤ y3) (hy1 : y3 + 6 ≤ E.1) (hnext : ∀ (a b : Nat → Nat → Int) (hv : iv a) (hg0 : WFW a) (hg1 : SV a) (hg2 : OC a) (hg3 : FO a) (hg4 : FW a) (hg5 : TAPE a) (hg6 : MEMR a) (hg7 : FARR a) (hg8 : WISHR a) (hg9 : CIC a) (hg10 : STR a) (hr0 : a 0 0 = a 146 0) (hr1 : a 4 6 = a 146 2) (hr2 : a 2 1 = a 146 22) (hr3 : a 105 5 = a 146 68), jt (jxX E d 305 1189 [some (.inr (.inr (.inl 3000))), some (.inr (.inr (.inl 0))), some (.inr (.inr (.inl 146))), some (.inl y3)] [] (jxSH, a, b)) (fun v _ _ => v = [.inl 1])) (a b : Nat → Nat → Int) (hv : iv a) (hg0 : WFW a) (hg1 : SV a) (hg2 : OC a) (hg3 : FO a) (hg4 : FW a) (hg5 : TAPE a) (hg6 : MEMR a) (hg7 : FARR a) (hg8 : WISHR a) (hg9 : CIC a) (hg10 : STR a) (hr0 : a 0 0 = a 146 0) (hr1 : a 4 6 = a 146 2) (hr2 : a 2 1 = a 146 22) (hr3 : a 105 5 = a 146 68) : jt (jxX E d 305 615 [some (.inr (.inr (.inl 3000))), some (.inr (.inr (.inl 0))), some (.inr (.inr (.inl 146))), some (.inl y3)] [] (jxSH, a, b)) (fun v _ _ => v = [.inl 1]) := by
  refine jt_eq (bq_law_615 E d y3 a b) ?_
  have h651_ := iv_get hv (k := 0) (j := 0) (l := 0) (u := 1999) rfl
  have h652_ := iv_get hv (k := 146) (j := 0) (l := 0) (u := 1999) rfl
  have h653_ := iv_get hv (k := 4) (j := 6) (l := 0) (u := 40) rfl
  have h654_ := iv_get hv (k := 146) (j := 2) (l := 0) (u := 40) rfl
  have h655_ := iv_get hv (k := 2) (j := 1) (l := 0) (u := 200) rfl
  have h656_ := iv_get hv (k := 146) (j := 22) (l := 0) (u := 200) rfl
  have h657_ := iv_get hv (k := 105) (j := 5) (l := 0) (u := 10) rfl
  have h658_ := iv_get hv (k := 146) (j := 68) (l := 0) (u := 10) rfl
  have hBAS : BAS a := ⟨hv, hr0, hr1, hg6, hg7, hg8⟩
  have hring := AL_ring (b := b) (b2 := b) hBAS hg10 ((E.2 ((jxw (y3 + 1)).toNat))) ((E.2 ((jxw (y3 + 2)).toNat)))
  refine jt_bif (Nat.ble_eq_true_of_le (by omega)) ?_
  have h659_ : jxw (y3 + 1) = y3 + 1 := jxw_id (by omega) (by omega)
  refine jt_grd (by omega) ?_
  refine jt_bif (Nat.ble_eq_true_of_le (by omega)) ?_
  have h660_ : jxw (y3 + 2) = y3 + 2 := jxw_id (by omega) (by omega)
  refine jt_grd (by omega) ?_
  refine jt_eI (eq_X11_card E d (jd_le hd rfl) (E.2 ((jxw (y3 + 1)).toNat)) (E.2 ((jxw (y3 + 2)).toNat)) a b) ?_
  refine jt_eq (bq_law_630 E d y3 a b) ?_
  refine jt_bif (Nat.ble_eq_true_of_le (by omega)) ?_
  refine jt_grd (by omega) ?_
  refine jt_bif (Nat.ble_eq_true_of_le (by omega)) ?_
  refine jt_grd (by omega) ?_
  refine jt_bI (sp_X12_card E d (jd_le hd rfl) (E.2 ((jxw (y3 + 1)).toNat)) (E.2 ((jxw (y3 + 2)).toNat)) a b hv) (fun r661_ a661_ b661_ h661_ => ?_)
  obtain ⟨rfl, rfl, hq661_0, hq661_1, hq661_2⟩ := h661_
  have h662_ := iv_get hv (k := 146) (j := 9) (l := 0) (u := 300) rfl
  have z1_661 := (AL_n hg10.1).1
  have hLr661 : f_X11_card a b ((E.2 ((jxw (y3 + 1)).toNat))) ((E.2 ((jxw (y3 + 2)).toNat))) = r661_ := by
    by_cases c : 0 ≤ (E.2 ((jxw (y3 + 1)).toNat)) ∧ (E.2 ((jxw (y3 + 1)).toNat)) < a 58 8
    · exact (AL_card1 hg10.1 c).trans (hq661_1 ⟨c.1, by omega⟩).symm
    · exact (AL_card0 c).trans (hq661_2 (fun z => c ⟨z.1, by omega⟩)).symm
  exact hnext a b hv hg0 hg1 hg2 hg3 hg4 hg5 hg6 hg7 hg8 hg9 hg10 (show a 0 0 = a 146 0 from by omega) (show a 4 6 = a 146 2 from by omega) (show a 2 1 = a 146 22 from by omega) (show a 105 5 = a 146 68 from by omega)
theorem lw_op648 (E : jxE) (d : Nat) (hd : Nat.ble 60 (d + 1) = true) (hL : E.1 ≤ 3072) (y3 : Int) (hy0 : 0 ≤ y3) (hy1 : y3 + 6 ≤ E.1) (hnext : ∀ (a b : Nat → Nat → Int) (hv : iv a) (hg0 : WFW a) (hg1 : SV a) (hg2 : OC a) (hg3 : FO a) (hg4 : FW a) (hg5 : TAPE a) (hg6 : MEMR a) (hg7 : FARR a) (hg8 : WISHR a) (hg9 : CIC a) (hg10 : STR a) (hr0 : a 0 0 = a 146 0) (hr1 : a 4 6 = a 146 2) (hr2 : a 2 1 = a 146 22) (hr3 : a 105 5 = a 146 68), jt (jxX E d 305 1189 [some (.inr (.inr (.inl 3000))), some (.inr (.inr (.inl 0))), some (.inr (.inr (.inl 146))), some (.inl y3)] [] (jxSH, a, b)) (fun v _ _ => v = [.inl 1])) (a b : Nat → Nat → Int) (hv : iv a) (hg0 : WFW a) (hg1 : SV a) (hg2 : OC a) (hg3 : FO a) (hg4 : FW a) (hg5 : TAPE a) (hg6 : MEMR a) (hg7 : FARR a) (hg8 : WISHR a) (hg9 : CIC a) (hg10 : STR a) (hr0 : a 0 0 = a 146 0) (hr1 : a 4 6 = a 146 2) (hr2 : a 2 1 = a 146 22) (hr3 : a 105 5 = a 146 68) : jt (jxX E d 305 648 [some (.inr (.inr (.inl 3000))), some (.inr (.inr (.inl 0))), some (.inr (.inr (.inl 146))), some (.inl y3)] [] (jxSH, a, b)) (fun v _ _ => v = [.inl 1]) := by
  refine jt_eq (bq_law_648 E d y3 a b) ?_
  have h663_ := iv_get hv (k := 0) (j := 0) (l := 0) (u := 1999) rfl
  have h664_ := iv_get hv (k := 146) (j := 0) (l := 0) (u := 1999) rfl
  have h665_ := iv_get hv (k := 4) (j := 6) (l := 0) (u := 40) rfl
  have h666_ := iv_get hv (k := 146) (j := 2) (l := 0) (u := 40) rfl
  have h667_ := iv_get hv (k := 2) (j := 1) (l := 0) (u := 200) rfl
  have h668_ := iv_get hv (k := 146) (j := 22) (l := 0) (u := 200) rfl
  have h669_ := iv_get hv (k := 105) (j := 5) (l := 0) (u := 10) rfl
  have h670_ := iv_get hv (k := 146) (j := 68) (l := 0) (u := 10) rfl
  have hBAS : BAS a := ⟨hv, hr0, hr1, hg6, hg7, hg8⟩
  have hring := AL_ring (b := b) (b2 := b) hBAS hg10 ((E.2 ((jxw (y3 + 1)).toNat))) ((E.2 ((jxw (y3 + 2)).toNat)))
  refine jt_bif (Nat.ble_eq_true_of_le (by omega)) ?_
  have h671_ : jxw (y3 + 1) = y3 + 1 := jxw_id (by omega) (by omega)
  refine jt_grd (by omega) ?_
  refine jt_bif (Nat.ble_eq_true_of_le (by omega)) ?_
  have h672_ : jxw (y3 + 2) = y3 + 2 := jxw_id (by omega) (by omega)
  refine jt_grd (by omega) ?_
  refine jt_bif (Nat.ble_eq_true_of_le (by omega)) ?_
  have h673_ : jxw (y3 + 3) = y3 + 3 := jxw_id (by omega) (by omega)
  refine jt_grd (by omega) ?_
  refine jt_bI (sp_X11_state E d (jd_le hd rfl) (E.2 ((jxw (y3 + 1)).toNat)) (E.2 ((jxw (y3 + 2)).toNat)) (E.2 ((jxw (y3 + 3)).toNat)) a b hv) (fun r674_ a674_ b674_ h674_ => ?_)
  obtain ⟨rfl, rfl, hq674_0, hq674_1, hq674_2⟩ := h674_
  have h675_ := iv_get hv (k := 58) (j := 8) (l := 0) (u := 300) rfl
  refine jt_eq (bq_law_668 E d y3 a b) ?_
  refine jt_bif (Nat.ble_eq_true_of_le (by omega)) ?_
  refine jt_grd (by omega) ?_
  refine jt_bif (Nat.ble_eq_true_of_le (by omega)) ?_
  refine jt_grd (by omega) ?_
  refine jt_bif (Nat.ble_eq_true_of_le (by omega)) ?_
  refine jt_grd (by omega) ?_
  refine jt_bI (sp_X12_state E d (jd_le hd rfl) (E.2 ((jxw (y3 + 1)).toNat)) (E.2 ((jxw (y3 + 2)).toNat)) (E.2 ((jxw (y3 + 3)).toNat)) a b hv) (fun r676_ a676_ b676_ h676_ => ?_)
  obtain ⟨rfl, rfl, hq676_0, hq676_1, hq676_2⟩ := h676_
  have h677_ := iv_get hv (k := 146) (j := 9) (l := 0) (u := 300) rfl
  have z1_676 := (AL_n hg10.1).1
  have hLr676 : r674_ = r676_ := by
    by_cases c : 0 ≤ (E.2 ((jxw (y3 + 1)).toNat)) ∧ (E.2 ((jxw (y3 + 1)).toNat)) < a 58 8 ∧ 0 ≤ (E.2 ((jxw (y3 + 2)).toNat)) ∧ (E.2 ((jxw (y3 + 2)).toNat)) ≤ 1999 ∧ 0 ≤ (E.2 ((jxw (y3 + 3)).toNat)) ∧ (E.2 ((jxw (y3 + 3)).toNat)) ≤ 1999
    · rw [hq674_1 c, AL_state hBAS hg10.1 c.1 c.2.1]
      by_cases d : a 156 ((E.2 ((jxw (y3 + 1)).toNat))).toNat ≤ (E.2 ((jxw (y3 + 2)).toNat))
      · rw [if_pos d]; exact (hq676_1 ⟨c.1, by omega, c.2.2.1, c.2.2.2.1, c.2.2.2.2.1, c.2.2.2.2.2, d⟩).symm
      · rw [if_neg d]; exact (hq676_2 (fun z => d z.2.2.2.2.2.2)).symm
    · rw [hq674_2 c]; exact (hq676_2 (fun z => c ⟨z.1, by omega, z.2.2.1, z.2.2.2.1, z.2.2.2.2.1, z.2.2.2.2.2.1⟩)).symm
  refine jt_eq (bq_law_688 E d y3 a b) ?_
  exact hnext a b hv hg0 hg1 hg2 hg3 hg4 hg5 hg6 hg7 hg8 hg9 hg10 (show a 0 0 = a 146 0 from by omega) (show a 4 6 = a 146 2 from by omega) (show a 2 1 = a 146 22 from by omega) (show a 105 5 = a 146 68 from by omega)
theorem lw_op691 (E : jxE) (d : Nat) (hd : Nat.ble 60 (d + 1) = true) (hL : E.1 ≤ 3072) (y3 : Int) (hy0 : 0 ≤ y3) (hy1 : y3 + 6 ≤ E.1) (hnext : ∀ (a b : Nat → Nat → Int) (hv : iv a) (hg0 : WFW a) (hg1 : SV a) (hg2 : OC a) (hg3 : FO a) (hg4 : FW a) (hg5 : TAPE a) (hg6 : MEMR a) (hg7 : FARR a) (hg8 : WISHR a) (hg9 : CIC a) (hg10 : STR a) (hr0 : a 0 0 = a 146 0) (hr1 : a 4 6 = a 146 2) (hr2 : a 2 1 = a 146 22) (hr3 : a 105 5 = a 146 68), jt (jxX E d 305 1189 [some (.inr (.inr (.inl 3000))), some (.inr (.inr (.inl 0))), some (.inr (.inr (.inl 146))), some (.inl y3)] [] (jxSH, a, b)) (fun v _ _ => v = [.inl 1])) (a b : Nat → Nat → Int) (hv : iv a) (hg0 : WFW a) (hg1 : SV a) (hg2 : OC a) (hg3 : FO a) (hg4 : FW a) (hg5 : TAPE a) (hg6 : MEMR a) (hg7 : FARR a) (hg8 : WISHR a) (hg9 : CIC a) (hg10 : STR a) (hr0 : a 0 0 = a 146 0) (hr1 : a 4 6 = a 146 2) (hr2 : a 2 1 = a 146 22) (hr3 : a 105 5 = a 146 68) : jt (jxX E d 305 691 [some (.inr (.inr (.inl 3000))), some (.inr (.inr (.inl 0))), some (.inr (.inr (.inl 146))), some (.inl y3)] [] (jxSH, a, b)) (fun v _ _ => v = [.inl 1]) := by
  refine jt_eq (bq_law_691 E d y3 a b) ?_
  have h678_ := iv_get hv (k := 0) (j := 0) (l := 0) (u := 1999) rfl
  have h679_ := iv_get hv (k := 146) (j := 0) (l := 0) (u := 1999) rfl
  have h680_ := iv_get hv (k := 4) (j := 6) (l := 0) (u := 40) rfl
  have h681_ := iv_get hv (k := 146) (j := 2) (l := 0) (u := 40) rfl
  have h682_ := iv_get hv (k := 2) (j := 1) (l := 0) (u := 200) rfl
  have h683_ := iv_get hv (k := 146) (j := 22) (l := 0) (u := 200) rfl
  have h684_ := iv_get hv (k := 105) (j := 5) (l := 0) (u := 10) rfl
  have h685_ := iv_get hv (k := 146) (j := 68) (l := 0) (u := 10) rfl
  have hBAS : BAS a := ⟨hv, hr0, hr1, hg6, hg7, hg8⟩
  have hring := AL_ring (b := b) (b2 := b) hBAS hg10 ((E.2 ((jxw (y3 + 1)).toNat))) ((E.2 ((jxw (y3 + 2)).toNat)))
  refine jt_bif (Nat.ble_eq_true_of_le (by omega)) ?_
  have h686_ : jxw (y3 + 1) = y3 + 1 := jxw_id (by omega) (by omega)
  refine jt_grd (by omega) ?_
  refine jt_bif (Nat.ble_eq_true_of_le (by omega)) ?_
  have h687_ : jxw (y3 + 2) = y3 + 2 := jxw_id (by omega) (by omega)
  refine jt_grd (by omega) ?_
  refine jt_bI (sp_X11_about E d (jd_le hd rfl) (E.2 ((jxw (y3 + 1)).toNat)) (E.2 ((jxw (y3 + 2)).toNat)) a b hv) (fun r688_ a688_ b688_ h688_ => ?_)
  obtain ⟨hv688_, hf688_, rfl, hq688_0, hq688_1, hq688_2, hq688_3⟩ := h688_
  refine jt_eq (bq_law_706 E d y3 a688_ b) ?_
  refine jt_bif (Nat.ble_eq_true_of_le (by omega)) ?_
  refine jt_grd (by omega) ?_
  refine jt_bif (Nat.ble_eq_true_of_le (by omega)) ?_
  refine jt_grd (by omega) ?_
  refine jt_bI (sp_X12_about E d (jd_le hd rfl) (E.2 ((jxw (y3 + 1)).toNat)) (E.2 ((jxw (y3 + 2)).toNat)) a688_ b hv688_) (fun r689_ a689_ b689_ h689_ => ?_)
  obtain ⟨rfl, rfl, hq689_0, hq689_1, hq689_2⟩ := h689_
  have h690_ := iv_get hv688_ (k := 146) (j := 2) (l := 0) (u := 40) rfl
  have h691_ : a688_ 146 2 = a 146 2 := hf688_ 146 2 rfl
  have z2_689 := hf688_ 146 2 rfl
  have hLr689 : r688_ = r689_ := by
    by_cases c : 0 ≤ (E.2 ((jxw (y3 + 1)).toNat)) ∧ (E.2 ((jxw (y3 + 1)).toNat)) < a 4 6
    · exact AL_about hBAS hg10.1 c.1 c.2 (hq688_1 c) (ABR1_cl (CLS_fr hf688_ rfl) (hq689_1 ⟨c.1, by omega⟩))
    · rw [hq688_2 c]; exact (hq689_2 (fun z => c ⟨z.1, by omega⟩)).symm
  have h692_ := iv_get hv688_ (k := 0) (j := 0) (l := 0) (u := 1999) rfl
  have h693_ : a688_ 0 0 = a 0 0 := hf688_ 0 0 rfl
  have h694_ := iv_get hv688_ (k := 146) (j := 0) (l := 0) (u := 1999) rfl
  have h695_ : a688_ 146 0 = a 146 0 := hf688_ 146 0 rfl
  have h696_ := iv_get hv688_ (k := 4) (j := 6) (l := 0) (u := 40) rfl
  have h697_ : a688_ 4 6 = a 4 6 := hf688_ 4 6 rfl
  have h698_ := iv_get hv688_ (k := 2) (j := 1) (l := 0) (u := 200) rfl
  have h699_ : a688_ 2 1 = a 2 1 := hf688_ 2 1 rfl
  have h700_ := iv_get hv688_ (k := 146) (j := 22) (l := 0) (u := 200) rfl
  have h701_ : a688_ 146 22 = a 146 22 := hf688_ 146 22 rfl
  have h702_ := iv_get hv688_ (k := 105) (j := 5) (l := 0) (u := 10) rfl
  have h703_ : a688_ 105 5 = a 105 5 := hf688_ 105 5 rfl
  have h704_ := iv_get hv688_ (k := 146) (j := 68) (l := 0) (u := 10) rfl
  have h705_ : a688_ 146 68 = a 146 68 := hf688_ 146 68 rfl
  exact hnext a688_ b hv688_ (WFW_fr hg0 hf688_ (fun _ => rfl) (fun _ => rfl)) (SV_fr hg1 hf688_ (fun _ => rfl) (fun _ => rfl)) (OC_fr hg2 hf688_ rfl rfl (fun _ => rfl) (fun _ => rfl) (fun _ => rfl) (fun _ => rfl) (fun _ => rfl)) (FO_fr hg3 hf688_ rfl rfl (fun _ => rfl)) (FW_fr hg4 hf688_ rfl (fun _ => rfl)) (TAPE_fr hg5 hf688_ (fun _ => rfl) (fun _ => rfl)) (MEMR_fr hg6 hf688_ (fun _ => rfl) (fun _ => rfl) (fun _ => rfl) (fun _ => rfl) (fun _ => rfl) (fun _ => rfl) (fun _ => rfl) (fun _ => rfl) (fun _ => rfl) (fun _ => rfl)) (FARR_fr hg7 hf688_ (fun _ => rfl) (fun _ => rfl)) (WISHR_fr hg8 hf688_ (fun _ => rfl) (fun _ => rfl) (fun _ => rfl) (fun _ => rfl)) (CIC_fr hg9 hf688_ rfl rfl rfl rfl (fun _ => rfl) (fun _ => rfl) (fun _ => rfl) (fun _ => rfl) (fun _ => rfl) (fun _ => rfl) (fun _ => rfl) (fun _ => rfl) (fun _ => rfl) (fun _ => rfl)) (STR_fr hg10 hf688_ rfl rfl rfl (fun _ => rfl) (fun _ => rfl) rfl rfl (fun _ => rfl) (fun _ => rfl) (fun _ => rfl) (fun _ => rfl) (fun _ => rfl) (fun _ => rfl) (fun _ => rfl) (fun _ => rfl) (fun _ => rfl) (fun _ => rfl) (fun _ => rfl) rfl rfl (fun _ => rfl) (fun _ => rfl) (fun _ => rfl) (fun _ => rfl) (fun _ => rfl) (fun _ => rfl) rfl (fun _ => rfl) (fun _ => rfl) rfl rfl rfl rfl rfl rfl (fun _ => rfl) (fun _ => rfl) (fun _ => rfl) (fun _ => rfl) (fun _ => rfl) (fun _ => rfl) (fun _ => rfl) (fun _ => rfl) (fun _ => rfl) (fun _ => rfl) (fun _ => rfl) (fun _ => rfl) (fun _ => rfl) (fun _ => rfl) (fun _ => rfl) (fun _ => rfl) (fun _ => rfl) (fun _ => rfl) (fun _ => rfl) (fun _ => rfl)) (show a688_ 0 0 = a688_ 146 0 from by omega) (show a688_ 4 6 = a688_ 146 2 from by omega) (show a688_ 2 1 = a688_ 146 22 from by omega) (show a688_ 105 5 = a688_ 146 68 from by omega)
theorem lw_op724 (E : jxE) (d : Nat) (hd : Nat.ble 60 (d + 1) = true) (hL : E.1 ≤ 3072) (y3 : Int) (hy0 : 0 ≤ y3) (hy1 : y3 + 6 ≤ E.1) (hnext : ∀ (a b : Nat → Nat → Int) (hv : iv a) (hg0 : WFW a) (hg1 : SV a) (hg2 : OC a) (hg3 : FO a) (hg4 : FW a) (hg5 : TAPE a) (hg6 : MEMR a) (hg7 : FARR a) (hg8 : WISHR a) (hg9 : CIC a) (hg10 : STR a) (hr0 : a 0 0 = a 146 0) (hr1 : a 4 6 = a 146 2) (hr2 : a 2 1 = a 146 22) (hr3 : a 105 5 = a 146 68), jt (jxX E d 305 1189 [some (.inr (.inr (.inl 3000))), some (.inr (.inr (.inl 0))), some (.inr (.inr (.inl 146))), some (.inl y3)] [] (jxSH, a, b)) (fun v _ _ => v = [.inl 1])) (a b : Nat → Nat → Int) (hv : iv a) (hg0 : WFW a) (hg1 : SV a) (hg2 : OC a) (hg3 : FO a) (hg4 : FW a) (hg5 : TAPE a) (hg6 : MEMR a) (hg7 : FARR a) (hg8 : WISHR a) (hg9 : CIC a) (hg10 : STR a) (hr0 : a 0 0 = a 146 0) (hr1 : a 4 6 = a 146 2) (hr2 : a 2 1 = a 146 22) (hr3 : a 105 5 = a 146 68) : jt (jxX E d 305 724 [some (.inr (.inr (.inl 3000))), some (.inr (.inr (.inl 0))), some (.inr (.inr (.inl 146))), some (.inl y3)] [] (jxSH, a, b)) (fun v _ _ => v = [.inl 1]) := by
  refine jt_eq (bq_law_724 E d y3 a b) ?_
  have h706_ := iv_get hv (k := 0) (j := 0) (l := 0) (u := 1999) rfl
  have h707_ := iv_get hv (k := 146) (j := 0) (l := 0) (u := 1999) rfl
  have h708_ := iv_get hv (k := 4) (j := 6) (l := 0) (u := 40) rfl
  have h709_ := iv_get hv (k := 146) (j := 2) (l := 0) (u := 40) rfl
  have h710_ := iv_get hv (k := 2) (j := 1) (l := 0) (u := 200) rfl
  have h711_ := iv_get hv (k := 146) (j := 22) (l := 0) (u := 200) rfl
  have h712_ := iv_get hv (k := 105) (j := 5) (l := 0) (u := 10) rfl
  have h713_ := iv_get hv (k := 146) (j := 68) (l := 0) (u := 10) rfl
  have hBAS : BAS a := ⟨hv, hr0, hr1, hg6, hg7, hg8⟩
  have hring := AL_ring (b := b) (b2 := b) hBAS hg10 ((E.2 ((jxw (y3 + 1)).toNat))) ((E.2 ((jxw (y3 + 2)).toNat)))
  refine jt_bif (Nat.ble_eq_true_of_le (by omega)) ?_
  have h714_ : jxw (y3 + 1) = y3 + 1 := jxw_id (by omega) (by omega)
  refine jt_grd (by omega) ?_
  refine jt_bI (sp_X11_album E d (jd_le hd rfl) (E.2 ((jxw (y3 + 1)).toNat)) a b hv) (fun r715_ a715_ b715_ h715_ => ?_)
  obtain ⟨rfl, rfl, hq715_0, hq715_1, hq715_2⟩ := h715_
  refine jt_eq (bq_law_734 E d y3 a b) ?_
  refine jt_bif (Nat.ble_eq_true_of_le (by omega)) ?_
  refine jt_grd (by omega) ?_
  refine jt_bI (sp_X12_album E d (jd_le hd rfl) (E.2 ((jxw (y3 + 1)).toNat)) a b hv) (fun r716_ a716_ b716_ h716_ => ?_)
  obtain ⟨rfl, rfl, hq716_0, hq716_1, hq716_2⟩ := h716_
  have hLr716 : r715_ = r716_ := by
    by_cases c : 0 ≤ (E.2 ((jxw (y3 + 1)).toNat)) ∧ (E.2 ((jxw (y3 + 1)).toNat)) < a 4 6
    · rw [hq715_1 c]
      have w := AL_alb hBAS hg10.1 (b := b) (x := (E.2 ((jxw (y3 + 1)).toNat))) (a 58 8).toNat (by have := (CI_n hg10.1.2.2.1).1; show (((vN (cvC a)).toNat : Nat) : Int) ≤ vN (cvC a); omega)
      rw [w, (AL_n hg10.1).1]; exact (hq716_1 ⟨c.1, by omega⟩).symm
    · rw [hq715_2 c]; exact (hq716_2 (fun z => c ⟨z.1, by omega⟩)).symm
  exact hnext a b hv hg0 hg1 hg2 hg3 hg4 hg5 hg6 hg7 hg8 hg9 hg10 (show a 0 0 = a 146 0 from by omega) (show a 4 6 = a 146 2 from by omega) (show a 2 1 = a 146 22 from by omega) (show a 105 5 = a 146 68 from by omega)
theorem lw_op747 (E : jxE) (d : Nat) (hd : Nat.ble 60 (d + 1) = true) (hL : E.1 ≤ 3072) (y3 : Int) (hy0 : 0 ≤ y3) (hy1 : y3 + 6 ≤ E.1) (hnext : ∀ (a b : Nat → Nat → Int) (hv : iv a) (hg0 : WFW a) (hg1 : SV a) (hg2 : OC a) (hg3 : FO a) (hg4 : FW a) (hg5 : TAPE a) (hg6 : MEMR a) (hg7 : FARR a) (hg8 : WISHR a) (hg9 : CIC a) (hg10 : STR a) (hr0 : a 0 0 = a 146 0) (hr1 : a 4 6 = a 146 2) (hr2 : a 2 1 = a 146 22) (hr3 : a 105 5 = a 146 68), jt (jxX E d 305 1189 [some (.inr (.inr (.inl 3000))), some (.inr (.inr (.inl 0))), some (.inr (.inr (.inl 146))), some (.inl y3)] [] (jxSH, a, b)) (fun v _ _ => v = [.inl 1])) (a b : Nat → Nat → Int) (hv : iv a) (hg0 : WFW a) (hg1 : SV a) (hg2 : OC a) (hg3 : FO a) (hg4 : FW a) (hg5 : TAPE a) (hg6 : MEMR a) (hg7 : FARR a) (hg8 : WISHR a) (hg9 : CIC a) (hg10 : STR a) (hr0 : a 0 0 = a 146 0) (hr1 : a 4 6 = a 146 2) (hr2 : a 2 1 = a 146 22) (hr3 : a 105 5 = a 146 68) : jt (jxX E d 305 747 [some (.inr (.inr (.inl 3000))), some (.inr (.inr (.inl 0))), some (.inr (.inr (.inl 146))), some (.inl y3)] [] (jxSH, a, b)) (fun v _ _ => v = [.inl 1]) := by
  refine jt_eq (bq_law_747 E d y3 a b) ?_
  have h717_ := iv_get hv (k := 0) (j := 0) (l := 0) (u := 1999) rfl
  have h718_ := iv_get hv (k := 146) (j := 0) (l := 0) (u := 1999) rfl
  have h719_ := iv_get hv (k := 4) (j := 6) (l := 0) (u := 40) rfl
  have h720_ := iv_get hv (k := 146) (j := 2) (l := 0) (u := 40) rfl
  have h721_ := iv_get hv (k := 2) (j := 1) (l := 0) (u := 200) rfl
  have h722_ := iv_get hv (k := 146) (j := 22) (l := 0) (u := 200) rfl
  have h723_ := iv_get hv (k := 105) (j := 5) (l := 0) (u := 10) rfl
  have h724_ := iv_get hv (k := 146) (j := 68) (l := 0) (u := 10) rfl
  have hBAS : BAS a := ⟨hv, hr0, hr1, hg6, hg7, hg8⟩
  have hring := AL_ring (b := b) (b2 := b) hBAS hg10 ((E.2 ((jxw (y3 + 1)).toNat))) ((E.2 ((jxw (y3 + 2)).toNat)))
  refine jt_bif (Nat.ble_eq_true_of_le (by omega)) ?_
  have h725_ : jxw (y3 + 1) = y3 + 1 := jxw_id (by omega) (by omega)
  refine jt_grd (by omega) ?_
  refine jt_bif (Nat.ble_eq_true_of_le (by omega)) ?_
  have h726_ : jxw (y3 + 2) = y3 + 2 := jxw_id (by omega) (by omega)
  refine jt_grd (by omega) ?_
  refine jt_bif (Nat.ble_eq_true_of_le (by omega)) ?_
  have h727_ : jxw (y3 + 3) = y3 + 3 := jxw_id (by omega) (by omega)
  refine jt_grd (by omega) ?_
  refine jt_bI (sp_X11_span E d (jd_le hd rfl) (E.2 ((jxw (y3 + 1)).toNat)) (E.2 ((jxw (y3 + 2)).toNat)) (E.2 ((jxw (y3 + 3)).toNat)) a b hv) (fun r728_ a728_ b728_ h728_ => ?_)
  obtain ⟨hv728_, hf728_, rfl, hq728_0, hq728_1, hq728_2, hq728_3⟩ := h728_
  have h729_ := iv_get hv (k := 58) (j := 12) (l := 0) (u := 600) rfl
  refine jt_eq (bq_law_767 E d y3 a728_ b) ?_
  refine jt_bif (Nat.ble_eq_true_of_le (by omega)) ?_
  refine jt_grd (by omega) ?_
  refine jt_bif (Nat.ble_eq_true_of_le (by omega)) ?_
  refine jt_grd (by omega) ?_
  refine jt_bif (Nat.ble_eq_true_of_le (by omega)) ?_
  refine jt_grd (by omega) ?_
  refine jt_bI (sp_X12_span E d (jd_le hd rfl) (E.2 ((jxw (y3 + 1)).toNat)) (E.2 ((jxw (y3 + 2)).toNat)) (E.2 ((jxw (y3 + 3)).toNat)) a728_ b hv728_) (fun r730_ a730_ b730_ h730_ => ?_)
  obtain ⟨hv730_, hf730_, rfl, hq730_0, hq730_1, hq730_2⟩ := h730_
  have h731_ := iv_get hv728_ (k := 146) (j := 17) (l := 0) (u := 600) rfl
  have h732_ : a728_ 146 17 = a 146 17 := hf728_ 146 17 rfl
  have h733_ := iv_get hv (k := 146) (j := 17) (l := 0) (u := 600) rfl
  have hLr730 : r728_ = r730_ := by
    by_cases c : 0 ≤ (E.2 ((jxw (y3 + 1)).toNat)) ∧ (E.2 ((jxw (y3 + 1)).toNat)) ≤ 15 ∧ 0 ≤ (E.2 ((jxw (y3 + 2)).toNat)) ∧ (E.2 ((jxw (y3 + 2)).toNat)) ≤ 15
    · have q := hq730_1 c
      rw [SPR_cl (CLS_fr hf728_ rfl)] at q
      exact AL_span hBAS hg10.1 (fun z => hq728_1 ⟨c.1, c.2.1, c.2.2.1, c.2.2.2, z.1, z.2⟩) (fun z => hq728_2 (fun u => z u.2.2.2.2)) q
    · rw [hq728_2 (fun u => c ⟨u.1, u.2.1, u.2.2.1, u.2.2.2.1⟩)]; exact (hq730_2 c).symm
  refine jt_eq (bq_law_787 E d y3 a730_ b) ?_
  have h734_ := iv_get hv730_ (k := 0) (j := 0) (l := 0) (u := 1999) rfl
  have h735_ : a730_ 0 0 = a728_ 0 0 := hf730_ 0 0 rfl
  have h736_ := iv_get hv728_ (k := 0) (j := 0) (l := 0) (u := 1999) rfl
  have h737_ : a728_ 0 0 = a 0 0 := hf728_ 0 0 rfl
  have h738_ := iv_get hv730_ (k := 146) (j := 0) (l := 0) (u := 1999) rfl
  have h739_ : a730_ 146 0 = a728_ 146 0 := hf730_ 146 0 rfl
  have h740_ := iv_get hv728_ (k := 146) (j := 0) (l := 0) (u := 1999) rfl
  have h741_ : a728_ 146 0 = a 146 0 := hf728_ 146 0 rfl
  have h742_ := iv_get hv730_ (k := 4) (j := 6) (l := 0) (u := 40) rfl
  have h743_ : a730_ 4 6 = a728_ 4 6 := hf730_ 4 6 rfl
  have h744_ := iv_get hv728_ (k := 4) (j := 6) (l := 0) (u := 40) rfl
  have h745_ : a728_ 4 6 = a 4 6 := hf728_ 4 6 rfl
  have h746_ := iv_get hv730_ (k := 146) (j := 2) (l := 0) (u := 40) rfl
  have h747_ : a730_ 146 2 = a728_ 146 2 := hf730_ 146 2 rfl
  have h748_ := iv_get hv728_ (k := 146) (j := 2) (l := 0) (u := 40) rfl
  have h749_ : a728_ 146 2 = a 146 2 := hf728_ 146 2 rfl
  have h750_ := iv_get hv730_ (k := 2) (j := 1) (l := 0) (u := 200) rfl
  have h751_ : a730_ 2 1 = a728_ 2 1 := hf730_ 2 1 rfl
  have h752_ := iv_get hv728_ (k := 2) (j := 1) (l := 0) (u := 200) rfl
  have h753_ : a728_ 2 1 = a 2 1 := hf728_ 2 1 rfl
  have h754_ := iv_get hv730_ (k := 146) (j := 22) (l := 0) (u := 200) rfl
  have h755_ : a730_ 146 22 = a728_ 146 22 := hf730_ 146 22 rfl
  have h756_ := iv_get hv728_ (k := 146) (j := 22) (l := 0) (u := 200) rfl
  have h757_ : a728_ 146 22 = a 146 22 := hf728_ 146 22 rfl
  have h758_ := iv_get hv730_ (k := 105) (j := 5) (l := 0) (u := 10) rfl
  have h759_ : a730_ 105 5 = a728_ 105 5 := hf730_ 105 5 rfl
  have h760_ := iv_get hv728_ (k := 105) (j := 5) (l := 0) (u := 10) rfl
  have h761_ : a728_ 105 5 = a 105 5 := hf728_ 105 5 rfl
  have h762_ := iv_get hv730_ (k := 146) (j := 68) (l := 0) (u := 10) rfl
  have h763_ : a730_ 146 68 = a728_ 146 68 := hf730_ 146 68 rfl
  have h764_ := iv_get hv728_ (k := 146) (j := 68) (l := 0) (u := 10) rfl
  have h765_ : a728_ 146 68 = a 146 68 := hf728_ 146 68 rfl
  exact hnext a730_ b hv730_ (WFW_fr (WFW_fr hg0 hf728_ (fun _ => rfl) (fun _ => rfl)) hf730_ (fun _ => rfl) (fun _ => rfl)) (SV_fr (SV_fr hg1 hf728_ (fun _ => rfl) (fun _ => rfl)) hf730_ (fun _ => rfl) (fun _ => rfl)) (OC_fr (OC_fr hg2 hf728_ rfl rfl (fun _ => rfl) (fun _ => rfl) (fun _ => rfl) (fun _ => rfl) (fun _ => rfl)) hf730_ rfl rfl (fun _ => rfl) (fun _ => rfl) (fun _ => rfl) (fun _ => rfl) (fun _ => rfl)) (FO_fr (FO_fr hg3 hf728_ rfl rfl (fun _ => rfl)) hf730_ rfl rfl (fun _ => rfl)) (FW_fr (FW_fr hg4 hf728_ rfl (fun _ => rfl)) hf730_ rfl (fun _ => rfl)) (TAPE_fr (TAPE_fr hg5 hf728_ (fun _ => rfl) (fun _ => rfl)) hf730_ (fun _ => rfl) (fun _ => rfl)) (MEMR_fr (MEMR_fr hg6 hf728_ (fun _ => rfl) (fun _ => rfl) (fun _ => rfl) (fun _ => rfl) (fun _ => rfl) (fun _ => rfl) (fun _ => rfl) (fun _ => rfl) (fun _ => rfl) (fun _ => rfl)) hf730_ (fun _ => rfl) (fun _ => rfl) (fun _ => rfl) (fun _ => rfl) (fun _ => rfl) (fun _ => rfl) (fun _ => rfl) (fun _ => rfl) (fun _ => rfl) (fun _ => rfl)) (FARR_fr (FARR_fr hg7 hf728_ (fun _ => rfl) (fun _ => rfl)) hf730_ (fun _ => rfl) (fun _ => rfl)) (WISHR_fr (WISHR_fr hg8 hf728_ (fun _ => rfl) (fun _ => rfl) (fun _ => rfl) (fun _ => rfl)) hf730_ (fun _ => rfl) (fun _ => rfl) (fun _ => rfl) (fun _ => rfl)) (CIC_fr (CIC_fr hg9 hf728_ rfl rfl rfl rfl (fun _ => rfl) (fun _ => rfl) (fun _ => rfl) (fun _ => rfl) (fun _ => rfl) (fun _ => rfl) (fun _ => rfl) (fun _ => rfl) (fun _ => rfl) (fun _ => rfl)) hf730_ rfl rfl rfl rfl (fun _ => rfl) (fun _ => rfl) (fun _ => rfl) (fun _ => rfl) (fun _ => rfl) (fun _ => rfl) (fun _ => rfl) (fun _ => rfl) (fun _ => rfl) (fun _ => rfl)) (STR_fr (STR_fr hg10 hf728_ rfl rfl rfl (fun _ => rfl) (fun _ => rfl) rfl rfl (fun _ => rfl) (fun _ => rfl) (fun _ => rfl) (fun _ => rfl) (fun _ => rfl) (fun _ => rfl) (fun _ => rfl) (fun _ => rfl) (fun _ => rfl) (fun _ => rfl) (fun _ => rfl) rfl rfl (fun _ => rfl) (fun _ => rfl) (fun _ => rfl) (fun _ => rfl) (fun _ => rfl) (fun _ => rfl) rfl (fun _ => rfl) (fun _ => rfl) rfl rfl rfl rfl rfl rfl (fun _ => rfl) (fun _ => rfl) (fun _ => rfl) (fun _ => rfl) (fun _ => rfl) (fun _ => rfl) (fun _ => rfl) (fun _ => rfl) (fun _ => rfl) (fun _ => rfl) (fun _ => rfl) (fun _ => rfl) (fun _ => rfl) (fun _ => rfl) (fun _ => rfl) (fun _ => rfl) (fun _ => rfl) (fun _ => rfl) (fun _ => rfl) (fun _ => rfl)) hf730_ rfl rfl rfl (fun _ => rfl) (fun _ => rfl) rfl rfl (fun _ => rfl) (fun _ => rfl) (fun _ => rfl) (fun _ => rfl) (fun _ => rfl) (fun _ => rfl) (fun _ => rfl) (fun _ => rfl) (fun _ => rfl) (fun _ => rfl) (fun _ => rfl) rfl rfl (fun _ => rfl) (fun _ => rfl) (fun _ => rfl) (fun _ => rfl) (fun _ => rfl) (fun _ => rfl) rfl (fun _ => rfl) (fun _ => rfl) rfl rfl rfl rfl rfl rfl (fun _ => rfl) (fun _ => rfl) (fun _ => rfl) (fun _ => rfl) (fun _ => rfl) (fun _ => rfl) (fun _ => rfl) (fun _ => rfl) (fun _ => rfl) (fun _ => rfl) (fun _ => rfl) (fun _ => rfl) (fun _ => rfl) (fun _ => rfl) (fun _ => rfl) (fun _ => rfl) (fun _ => rfl) (fun _ => rfl) (fun _ => rfl) (fun _ => rfl)) (show a730_ 0 0 = a730_ 146 0 from by omega) (show a730_ 4 6 = a730_ 146 2 from by omega) (show a730_ 2 1 = a730_ 146 22 from by omega) (show a730_ 105 5 = a730_ 146 68 from by omega)
theorem lw_op790 (E : jxE) (d : Nat) (hd : Nat.ble 60 (d + 1) = true) (hL : E.1 ≤ 3072) (y3 : Int) (hy0 : 0 ≤ y3) (hy1 : y3 + 6 ≤ E.1) (hnext : ∀ (a b : Nat → Nat → Int) (hv : iv a) (hg0 : WFW a) (hg1 : SV a) (hg2 : OC a) (hg3 : FO a) (hg4 : FW a) (hg5 : TAPE a) (hg6 : MEMR a) (hg7 : FARR a) (hg8 : WISHR a) (hg9 : CIC a) (hg10 : STR a) (hr0 : a 0 0 = a 146 0) (hr1 : a 4 6 = a 146 2) (hr2 : a 2 1 = a 146 22) (hr3 : a 105 5 = a 146 68), jt (jxX E d 305 1189 [some (.inr (.inr (.inl 3000))), some (.inr (.inr (.inl 0))), some (.inr (.inr (.inl 146))), some (.inl y3)] [] (jxSH, a, b)) (fun v _ _ => v = [.inl 1])) (a b : Nat → Nat → Int) (hv : iv a) (hg0 : WFW a) (hg1 : SV a) (hg2 : OC a) (hg3 : FO a) (hg4 : FW a) (hg5 : TAPE a) (hg6 : MEMR a) (hg7 : FARR a) (hg8 : WISHR a) (hg9 : CIC a) (hg10 : STR a) (hr0 : a 0 0 = a 146 0) (hr1 : a 4 6 = a 146 2) (hr2 : a 2 1 = a 146 22) (hr3 : a 105 5 = a 146 68) : jt (jxX E d 305 790 [some (.inr (.inr (.inl 3000))), some (.inr (.inr (.inl 0))), some (.inr (.inr (.inl 146))), some (.inl y3)] [] (jxSH, a, b)) (fun v _ _ => v = [.inl 1]) := by
  refine jt_eq (bq_law_790 E d y3 a b) ?_
  have h766_ := iv_get hv (k := 0) (j := 0) (l := 0) (u := 1999) rfl
  have h767_ := iv_get hv (k := 146) (j := 0) (l := 0) (u := 1999) rfl
  have h768_ := iv_get hv (k := 4) (j := 6) (l := 0) (u := 40) rfl
  have h769_ := iv_get hv (k := 146) (j := 2) (l := 0) (u := 40) rfl
  have h770_ := iv_get hv (k := 2) (j := 1) (l := 0) (u := 200) rfl
  have h771_ := iv_get hv (k := 146) (j := 22) (l := 0) (u := 200) rfl
  have h772_ := iv_get hv (k := 105) (j := 5) (l := 0) (u := 10) rfl
  have h773_ := iv_get hv (k := 146) (j := 68) (l := 0) (u := 10) rfl
  have hBAS : BAS a := ⟨hv, hr0, hr1, hg6, hg7, hg8⟩
  have hring := AL_ring (b := b) (b2 := b) hBAS hg10 ((E.2 ((jxw (y3 + 1)).toNat))) ((E.2 ((jxw (y3 + 2)).toNat)))
  refine jt_bif (Nat.ble_eq_true_of_le (by omega)) ?_
  have h774_ : jxw (y3 + 1) = y3 + 1 := jxw_id (by omega) (by omega)
  refine jt_grd (by omega) ?_
  refine jt_bif (Nat.ble_eq_true_of_le (by omega)) ?_
  have h775_ : jxw (y3 + 2) = y3 + 2 := jxw_id (by omega) (by omega)
  refine jt_grd (by omega) ?_
  refine jt_bif (Nat.ble_eq_true_of_le (by omega)) ?_
  have h776_ : jxw (y3 + 3) = y3 + 3 := jxw_id (by omega) (by omega)
  refine jt_grd (by omega) ?_
  refine jt_bI (sq_X11_offer E d (jd_le hd rfl) (E.2 ((jxw (y3 + 1)).toNat)) (E.2 ((jxw (y3 + 2)).toNat)) (E.2 ((jxw (y3 + 3)).toNat)) a b hv) (fun r777_ a777_ b777_ h777_ => ?_)
  obtain ⟨hv777_, hf777_, rfl, hq777_0, hq777_1, hq777_2, hq777_3⟩ := h777_
  have h778_ := iv_get hv (k := 83) (j := 6) (l := 0) (u := 20) rfl
  have h779_ := iv_get hv777_ (k := 83) (j := 6) (l := 0) (u := 20) rfl
  refine jt_eq (bq_law_810 E d y3 a777_ b) ?_
  refine jt_bif (Nat.ble_eq_true_of_le (by omega)) ?_
  refine jt_grd (by omega) ?_
  refine jt_bif (Nat.ble_eq_true_of_le (by omega)) ?_
  refine jt_grd (by omega) ?_
  refine jt_bif (Nat.ble_eq_true_of_le (by omega)) ?_
  refine jt_grd (by omega) ?_
  refine jt_bI (sq_X12_offer E d (jd_le hd rfl) (E.2 ((jxw (y3 + 1)).toNat)) (E.2 ((jxw (y3 + 2)).toNat)) (E.2 ((jxw (y3 + 3)).toNat)) a777_ b hv777_ (OC_fr hg2 hf777_ rfl rfl (fun _ => rfl) (fun _ => rfl) (fun _ => rfl) (fun _ => rfl) (fun _ => rfl)) (FO_fr hg3 hf777_ rfl rfl (fun _ => rfl)) (FW_fr hg4 hf777_ rfl (fun _ => rfl))) (fun r780_ a780_ b780_ h780_ => ?_)
  obtain ⟨hv780_, hf780_, rfl, hq780_0, hq780_1, hq780_2, hq780_3, hq780_4, hq780_5, hq780_6⟩ := h780_
  have h781_ := iv_get hv777_ (k := 146) (j := 2) (l := 0) (u := 40) rfl
  have h782_ : a777_ 146 2 = a 146 2 := hf777_ 146 2 rfl
  have h783_ := iv_get hv777_ (k := 152) (j := (E.2 ((jxw (y3 + 1)).toNat)).toNat) (l := 0) (u := 1) rfl
  have h784_ : a777_ 152 ((E.2 ((jxw (y3 + 1)).toNat)).toNat) = a 152 ((E.2 ((jxw (y3 + 1)).toNat)).toNat) := hf777_ 152 ((E.2 ((jxw (y3 + 1)).toNat)).toNat) rfl
  have h785_ := iv_get hv (k := 152) (j := (E.2 ((jxw (y3 + 1)).toNat)).toNat) (l := 0) (u := 1) rfl
  have h786_ := iv_get hv777_ (k := 146) (j := 49) (l := 0) (u := 20) rfl
  have h787_ : a777_ 146 49 = a 146 49 := hf777_ 146 49 rfl
  have h788_ := iv_get hv (k := 146) (j := 49) (l := 0) (u := 20) rfl
  have h789_ := iv_get hv780_ (k := 146) (j := 49) (l := 0) (u := 20) rfl
  have z1_780 := (hg6 ((E.2 ((jxw (y3 + 1)).toNat))).toNat).2.2.2.2
  have z2_780 : a 83 6 = a 146 49 := hg10.2.1.1.1
  have z3_780 := hf777_ 146 49 rfl
  have z4_780 := hf777_ 146 2 rfl
  have z5_780 := hf777_ 152 ((E.2 ((jxw (y3 + 1)).toNat))).toNat rfl
  have hrr780 : r777_ = r780_ := by omega
  have hS780 : STR a780_ := ST_offer hBAS hg10 (CLS_fr hf777_ rfl) (RFS_fr hf780_ rfl) (KFD_fr hf777_ rfl) (KFDr_fr hf780_ rfl) (KB_fr hf777_ rfl rfl) (KBr_fr hf780_ rfl) (KLS_fr hf777_ rfl) (KLSr_fr hf780_ rfl) (funext fun j => hf777_ 9 j rfl) (funext fun j => hf780_ 153 j rfl) (cvC_fr hf777_ rfl) (cvR_fr hf780_ rfl) (hf777_ 83 7 rfl) (hf780_ 146 55 rfl) hrr780 (by omega) hq777_2 hq777_3 hq780_5 hq780_6
  refine jt_eq (bq_law_830 E d y3 a780_ b) ?_
  have h790_ := iv_get hv780_ (k := 0) (j := 0) (l := 0) (u := 1999) rfl
  have h791_ : a780_ 0 0 = a777_ 0 0 := hf780_ 0 0 rfl
  have h792_ := iv_get hv777_ (k := 0) (j := 0) (l := 0) (u := 1999) rfl
  have h793_ : a777_ 0 0 = a 0 0 := hf777_ 0 0 rfl
  have h794_ := iv_get hv780_ (k := 146) (j := 0) (l := 0) (u := 1999) rfl
  have h795_ : a780_ 146 0 = a777_ 146 0 := hf780_ 146 0 rfl
  have h796_ := iv_get hv777_ (k := 146) (j := 0) (l := 0) (u := 1999) rfl
  have h797_ : a777_ 146 0 = a 146 0 := hf777_ 146 0 rfl
  have h798_ := iv_get hv780_ (k := 4) (j := 6) (l := 0) (u := 40) rfl
  have h799_ : a780_ 4 6 = a777_ 4 6 := hf780_ 4 6 rfl
  have h800_ := iv_get hv777_ (k := 4) (j := 6) (l := 0) (u := 40) rfl
  have h801_ : a777_ 4 6 = a 4 6 := hf777_ 4 6 rfl
  have h802_ := iv_get hv780_ (k := 146) (j := 2) (l := 0) (u := 40) rfl
  have h803_ : a780_ 146 2 = a777_ 146 2 := hf780_ 146 2 rfl
  have h804_ := iv_get hv780_ (k := 2) (j := 1) (l := 0) (u := 200) rfl
  have h805_ : a780_ 2 1 = a777_ 2 1 := hf780_ 2 1 rfl
  have h806_ := iv_get hv777_ (k := 2) (j := 1) (l := 0) (u := 200) rfl
  have h807_ : a777_ 2 1 = a 2 1 := hf777_ 2 1 rfl
  have h808_ := iv_get hv780_ (k := 146) (j := 22) (l := 0) (u := 200) rfl
  have h809_ : a780_ 146 22 = a777_ 146 22 := hf780_ 146 22 rfl
  have h810_ := iv_get hv777_ (k := 146) (j := 22) (l := 0) (u := 200) rfl
  have h811_ : a777_ 146 22 = a 146 22 := hf777_ 146 22 rfl
  have h812_ := iv_get hv780_ (k := 105) (j := 5) (l := 0) (u := 10) rfl
  have h813_ : a780_ 105 5 = a777_ 105 5 := hf780_ 105 5 rfl
  have h814_ := iv_get hv777_ (k := 105) (j := 5) (l := 0) (u := 10) rfl
  have h815_ : a777_ 105 5 = a 105 5 := hf777_ 105 5 rfl
  have h816_ := iv_get hv780_ (k := 146) (j := 68) (l := 0) (u := 10) rfl
  have h817_ : a780_ 146 68 = a777_ 146 68 := hf780_ 146 68 rfl
  have h818_ := iv_get hv777_ (k := 146) (j := 68) (l := 0) (u := 10) rfl
  have h819_ : a777_ 146 68 = a 146 68 := hf777_ 146 68 rfl
  exact hnext a780_ b hv780_ (WFW_fr (WFW_fr hg0 hf777_ (fun _ => rfl) (fun _ => rfl)) hf780_ (fun _ => rfl) (fun _ => rfl)) (SV_fr (SV_fr hg1 hf777_ (fun _ => rfl) (fun _ => rfl)) hf780_ (fun _ => rfl) (fun _ => rfl)) hq780_0 hq780_1 hq780_2 (TAPE_fr (TAPE_fr hg5 hf777_ (fun _ => rfl) (fun _ => rfl)) hf780_ (fun _ => rfl) (fun _ => rfl)) (MEMR_fr (MEMR_fr hg6 hf777_ (fun _ => rfl) (fun _ => rfl) (fun _ => rfl) (fun _ => rfl) (fun _ => rfl) (fun _ => rfl) (fun _ => rfl) (fun _ => rfl) (fun _ => rfl) (fun _ => rfl)) hf780_ (fun _ => rfl) (fun _ => rfl) (fun _ => rfl) (fun _ => rfl) (fun _ => rfl) (fun _ => rfl) (fun _ => rfl) (fun _ => rfl) (fun _ => rfl) (fun _ => rfl)) (FARR_fr (FARR_fr hg7 hf777_ (fun _ => rfl) (fun _ => rfl)) hf780_ (fun _ => rfl) (fun _ => rfl)) (WISHR_fr (WISHR_fr hg8 hf777_ (fun _ => rfl) (fun _ => rfl) (fun _ => rfl) (fun _ => rfl)) hf780_ (fun _ => rfl) (fun _ => rfl) (fun _ => rfl) (fun _ => rfl)) hS780.1.2.2.1 hS780 (show a780_ 0 0 = a780_ 146 0 from by omega) (show a780_ 4 6 = a780_ 146 2 from by omega) (show a780_ 2 1 = a780_ 146 22 from by omega) (show a780_ 105 5 = a780_ 146 68 from by omega)
theorem lw_op833 (E : jxE) (d : Nat) (hd : Nat.ble 60 (d + 1) = true) (hL : E.1 ≤ 3072) (y3 : Int) (hy0 : 0 ≤ y3) (hy1 : y3 + 6 ≤ E.1) (hnext : ∀ (a b : Nat → Nat → Int) (hv : iv a) (hg0 : WFW a) (hg1 : SV a) (hg2 : OC a) (hg3 : FO a) (hg4 : FW a) (hg5 : TAPE a) (hg6 : MEMR a) (hg7 : FARR a) (hg8 : WISHR a) (hg9 : CIC a) (hg10 : STR a) (hr0 : a 0 0 = a 146 0) (hr1 : a 4 6 = a 146 2) (hr2 : a 2 1 = a 146 22) (hr3 : a 105 5 = a 146 68), jt (jxX E d 305 1189 [some (.inr (.inr (.inl 3000))), some (.inr (.inr (.inl 0))), some (.inr (.inr (.inl 146))), some (.inl y3)] [] (jxSH, a, b)) (fun v _ _ => v = [.inl 1])) (a b : Nat → Nat → Int) (hv : iv a) (hg0 : WFW a) (hg1 : SV a) (hg2 : OC a) (hg3 : FO a) (hg4 : FW a) (hg5 : TAPE a) (hg6 : MEMR a) (hg7 : FARR a) (hg8 : WISHR a) (hg9 : CIC a) (hg10 : STR a) (hr0 : a 0 0 = a 146 0) (hr1 : a 4 6 = a 146 2) (hr2 : a 2 1 = a 146 22) (hr3 : a 105 5 = a 146 68) : jt (jxX E d 305 833 [some (.inr (.inr (.inl 3000))), some (.inr (.inr (.inl 0))), some (.inr (.inr (.inl 146))), some (.inl y3)] [] (jxSH, a, b)) (fun v _ _ => v = [.inl 1]) := by
  refine jt_eq (bq_law_833 E d y3 a b) ?_
  have h820_ := iv_get hv (k := 0) (j := 0) (l := 0) (u := 1999) rfl
  have h821_ := iv_get hv (k := 146) (j := 0) (l := 0) (u := 1999) rfl
  have h822_ := iv_get hv (k := 4) (j := 6) (l := 0) (u := 40) rfl
  have h823_ := iv_get hv (k := 146) (j := 2) (l := 0) (u := 40) rfl
  have h824_ := iv_get hv (k := 2) (j := 1) (l := 0) (u := 200) rfl
  have h825_ := iv_get hv (k := 146) (j := 22) (l := 0) (u := 200) rfl
  have h826_ := iv_get hv (k := 105) (j := 5) (l := 0) (u := 10) rfl
  have h827_ := iv_get hv (k := 146) (j := 68) (l := 0) (u := 10) rfl
  have hBAS : BAS a := ⟨hv, hr0, hr1, hg6, hg7, hg8⟩
  have hring := AL_ring (b := b) (b2 := b) hBAS hg10 ((E.2 ((jxw (y3 + 1)).toNat))) ((E.2 ((jxw (y3 + 2)).toNat)))
  refine jt_bif (Nat.ble_eq_true_of_le (by omega)) ?_
  have h828_ : jxw (y3 + 1) = y3 + 1 := jxw_id (by omega) (by omega)
  refine jt_grd (by omega) ?_
  refine jt_bI (sq_X11_away E d (jd_le hd rfl) (E.2 ((jxw (y3 + 1)).toNat)) a b hv) (fun r829_ a829_ b829_ h829_ => ?_)
  obtain ⟨hv829_, hf829_, rfl, hq829_0, hq829_1, hq829_2⟩ := h829_
  have h830_ := iv_get hv (k := 83) (j := 6) (l := 0) (u := 20) rfl
  refine jt_bif (Nat.ble_eq_true_of_le (by omega)) ?_
  refine jt_grd (by omega) ?_
  refine jt_bI (sq_X12_away E d (jd_le hd rfl) (E.2 ((jxw (y3 + 1)).toNat)) a829_ b hv829_ (OC_fr hg2 hf829_ rfl rfl (fun _ => rfl) (fun _ => rfl) (fun _ => rfl) (fun _ => rfl) (fun _ => rfl))) (fun r831_ a831_ b831_ h831_ => ?_)
  obtain ⟨hv831_, hf831_, rfl, hq831_0, hq831_1, hq831_2, hq831_3⟩ := h831_
  have h832_ := iv_get hv829_ (k := 146) (j := 49) (l := 0) (u := 20) rfl
  have h833_ : a829_ 146 49 = a 146 49 := hf829_ 146 49 rfl
  have h834_ := iv_get hv (k := 146) (j := 49) (l := 0) (u := 20) rfl
  have hL831 := ST_away hg10 (CLS_fr hf829_ rfl) (RFS_fr hf831_ rfl) (KFD_fr hf829_ rfl) (KFDr_fr hf831_ rfl) (KB_fr hf829_ rfl rfl) (KBr_fr hf831_ rfl) (KLS_fr hf829_ rfl) (KLSr_fr hf831_ rfl) (funext fun j => hf829_ 9 j rfl) (funext fun j => hf831_ 153 j rfl) (cvC_fr hf829_ rfl) (cvR_fr hf831_ rfl) ⟨hf829_ 83 6 rfl, hf829_ 83 7 rfl⟩ ⟨(funext fun j => hf829_ 84 j rfl), (funext fun j => hf829_ 85 j rfl), (funext fun j => hf829_ 86 j rfl)⟩ ⟨hf831_ 146 49 rfl, hf831_ 146 55 rfl, (funext fun j => hf831_ 178 j rfl), (funext fun j => hf831_ 179 j rfl), (funext fun j => hf831_ 180 j rfl), (funext fun j => hf831_ 182 j rfl)⟩ hq829_2 hq831_3
  have hLr831 : r829_ = r831_ := hL831.1
  have hS831 : STR a831_ := hL831.2
  refine jt_ite (fun c835_ => ?_) (fun c835_ => ?_)
  ·
    have h836_ := iv_get hv831_ (k := 0) (j := 0) (l := 0) (u := 1999) rfl
    have h837_ : a831_ 0 0 = a829_ 0 0 := hf831_ 0 0 rfl
    have h838_ := iv_get hv829_ (k := 0) (j := 0) (l := 0) (u := 1999) rfl
    have h839_ : a829_ 0 0 = a 0 0 := hf829_ 0 0 rfl
    have h840_ := iv_get hv831_ (k := 146) (j := 0) (l := 0) (u := 1999) rfl
    have h841_ : a831_ 146 0 = a829_ 146 0 := hf831_ 146 0 rfl
    have h842_ := iv_get hv829_ (k := 146) (j := 0) (l := 0) (u := 1999) rfl
    have h843_ : a829_ 146 0 = a 146 0 := hf829_ 146 0 rfl
    have h844_ := iv_get hv831_ (k := 4) (j := 6) (l := 0) (u := 40) rfl
    have h845_ : a831_ 4 6 = a829_ 4 6 := hf831_ 4 6 rfl
    have h846_ := iv_get hv829_ (k := 4) (j := 6) (l := 0) (u := 40) rfl
    have h847_ : a829_ 4 6 = a 4 6 := hf829_ 4 6 rfl
    have h848_ := iv_get hv831_ (k := 146) (j := 2) (l := 0) (u := 40) rfl
    have h849_ : a831_ 146 2 = a829_ 146 2 := hf831_ 146 2 rfl
    have h850_ := iv_get hv829_ (k := 146) (j := 2) (l := 0) (u := 40) rfl
    have h851_ : a829_ 146 2 = a 146 2 := hf829_ 146 2 rfl
    have h852_ := iv_get hv831_ (k := 2) (j := 1) (l := 0) (u := 200) rfl
    have h853_ : a831_ 2 1 = a829_ 2 1 := hf831_ 2 1 rfl
    have h854_ := iv_get hv829_ (k := 2) (j := 1) (l := 0) (u := 200) rfl
    have h855_ : a829_ 2 1 = a 2 1 := hf829_ 2 1 rfl
    have h856_ := iv_get hv831_ (k := 146) (j := 22) (l := 0) (u := 200) rfl
    have h857_ : a831_ 146 22 = a829_ 146 22 := hf831_ 146 22 rfl
    have h858_ := iv_get hv829_ (k := 146) (j := 22) (l := 0) (u := 200) rfl
    have h859_ : a829_ 146 22 = a 146 22 := hf829_ 146 22 rfl
    have h860_ := iv_get hv831_ (k := 105) (j := 5) (l := 0) (u := 10) rfl
    have h861_ : a831_ 105 5 = a829_ 105 5 := hf831_ 105 5 rfl
    have h862_ := iv_get hv829_ (k := 105) (j := 5) (l := 0) (u := 10) rfl
    have h863_ : a829_ 105 5 = a 105 5 := hf829_ 105 5 rfl
    have h864_ := iv_get hv831_ (k := 146) (j := 68) (l := 0) (u := 10) rfl
    have h865_ : a831_ 146 68 = a829_ 146 68 := hf831_ 146 68 rfl
    have h866_ := iv_get hv829_ (k := 146) (j := 68) (l := 0) (u := 10) rfl
    have h867_ : a829_ 146 68 = a 146 68 := hf829_ 146 68 rfl
    exact hnext a831_ b hv831_ (WFW_fr (WFW_fr hg0 hf829_ (fun _ => rfl) (fun _ => rfl)) hf831_ (fun _ => rfl) (fun _ => rfl)) (SV_fr (SV_fr hg1 hf829_ (fun _ => rfl) (fun _ => rfl)) hf831_ (fun _ => rfl) (fun _ => rfl)) hq831_1 (FO_fr (FO_fr hg3 hf829_ rfl rfl (fun _ => rfl)) hf831_ rfl rfl (fun _ => rfl)) (FW_fr (FW_fr hg4 hf829_ rfl (fun _ => rfl)) hf831_ rfl (fun _ => rfl)) (TAPE_fr (TAPE_fr hg5 hf829_ (fun _ => rfl) (fun _ => rfl)) hf831_ (fun _ => rfl) (fun _ => rfl)) (MEMR_fr (MEMR_fr hg6 hf829_ (fun _ => rfl) (fun _ => rfl) (fun _ => rfl) (fun _ => rfl) (fun _ => rfl) (fun _ => rfl) (fun _ => rfl) (fun _ => rfl) (fun _ => rfl) (fun _ => rfl)) hf831_ (fun _ => rfl) (fun _ => rfl) (fun _ => rfl) (fun _ => rfl) (fun _ => rfl) (fun _ => rfl) (fun _ => rfl) (fun _ => rfl) (fun _ => rfl) (fun _ => rfl)) (FARR_fr (FARR_fr hg7 hf829_ (fun _ => rfl) (fun _ => rfl)) hf831_ (fun _ => rfl) (fun _ => rfl)) (WISHR_fr (WISHR_fr hg8 hf829_ (fun _ => rfl) (fun _ => rfl) (fun _ => rfl) (fun _ => rfl)) hf831_ (fun _ => rfl) (fun _ => rfl) (fun _ => rfl) (fun _ => rfl)) hS831.1.2.2.1 hS831 (show a831_ 0 0 = a831_ 146 0 from by omega) (show a831_ 4 6 = a831_ 146 2 from by omega) (show a831_ 2 1 = a831_ 146 22 from by omega) (show a831_ 105 5 = a831_ 146 68 from by omega)
  ·
    exact absurd (by omega : False) id
theorem lw_op856 (E : jxE) (d : Nat) (hd : Nat.ble 60 (d + 1) = true) (hL : E.1 ≤ 3072) (y3 : Int) (hy0 : 0 ≤ y3) (hy1 : y3 + 6 ≤ E.1) (hnext : ∀ (a b : Nat → Nat → Int) (hv : iv a) (hg0 : WFW a) (hg1 : SV a) (hg2 : OC a) (hg3 : FO a) (hg4 : FW a) (hg5 : TAPE a) (hg6 : MEMR a) (hg7 : FARR a) (hg8 : WISHR a) (hg9 : CIC a) (hg10 : STR a) (hr0 : a 0 0 = a 146 0) (hr1 : a 4 6 = a 146 2) (hr2 : a 2 1 = a 146 22) (hr3 : a 105 5 = a 146 68), jt (jxX E d 305 1189 [some (.inr (.inr (.inl 3000))), some (.inr (.inr (.inl 0))), some (.inr (.inr (.inl 146))), some (.inl y3)] [] (jxSH, a, b)) (fun v _ _ => v = [.inl 1])) (a b : Nat → Nat → Int) (hv : iv a) (hg0 : WFW a) (hg1 : SV a) (hg2 : OC a) (hg3 : FO a) (hg4 : FW a) (hg5 : TAPE a) (hg6 : MEMR a) (hg7 : FARR a) (hg8 : WISHR a) (hg9 : CIC a) (hg10 : STR a) (hr0 : a 0 0 = a 146 0) (hr1 : a 4 6 = a 146 2) (hr2 : a 2 1 = a 146 22) (hr3 : a 105 5 = a 146 68) : jt (jxX E d 305 856 [some (.inr (.inr (.inl 3000))), some (.inr (.inr (.inl 0))), some (.inr (.inr (.inl 146))), some (.inl y3)] [] (jxSH, a, b)) (fun v _ _ => v = [.inl 1]) := by
  refine jt_eq (bq_law_856 E d y3 a b) ?_
  have h868_ := iv_get hv (k := 0) (j := 0) (l := 0) (u := 1999) rfl
  have h869_ := iv_get hv (k := 146) (j := 0) (l := 0) (u := 1999) rfl
  have h870_ := iv_get hv (k := 4) (j := 6) (l := 0) (u := 40) rfl
  have h871_ := iv_get hv (k := 146) (j := 2) (l := 0) (u := 40) rfl
  have h872_ := iv_get hv (k := 2) (j := 1) (l := 0) (u := 200) rfl
  have h873_ := iv_get hv (k := 146) (j := 22) (l := 0) (u := 200) rfl
  have h874_ := iv_get hv (k := 105) (j := 5) (l := 0) (u := 10) rfl
  have h875_ := iv_get hv (k := 146) (j := 68) (l := 0) (u := 10) rfl
  have hBAS : BAS a := ⟨hv, hr0, hr1, hg6, hg7, hg8⟩
  have hring := AL_ring (b := b) (b2 := b) hBAS hg10 ((E.2 ((jxw (y3 + 1)).toNat))) ((E.2 ((jxw (y3 + 2)).toNat)))
  refine jt_bI (sp_X11_rings E d (jd_le hd rfl) a b hv) (fun r876_ a876_ b876_ h876_ => ?_)
  obtain ⟨hv876_, hf876_, hq876_0, hq876_1⟩ := h876_
  have h877_ := iv_get hv (k := 83) (j := 6) (l := 0) (u := 20) rfl
  refine jt_eq (bq_law_861 E d y3 a876_ b876_) ?_
  refine jt_bI (sp_X12_rings E d (jd_le hd rfl) a876_ b876_ hv876_ (FO_fr hg3 hf876_ rfl rfl (fun _ => rfl)) (FW_fr hg4 hf876_ rfl (fun _ => rfl))) (fun r878_ a878_ b878_ h878_ => ?_)
  obtain ⟨hv878_, hf878_, rfl, hq878_0, hq878_1, hq878_2, hq878_3⟩ := h878_
  have h879_ := iv_get hv876_ (k := 146) (j := 49) (l := 0) (u := 20) rfl
  have h880_ : a876_ 146 49 = a 146 49 := hf876_ 146 49 rfl
  have h881_ := iv_get hv (k := 146) (j := 49) (l := 0) (u := 20) rfl
  have hL878 := ST_rings hBAS hg10 (CLS_fr hf876_ rfl) (RFS_fr hf878_ rfl) (KOF_fr hf876_ rfl) (KOFr_fr hf878_ rfl) (KLS_fr hf876_ rfl) (KLSr_fr hf878_ rfl) (cvC_fr hf876_ rfl) (cvR_fr hf878_ rfl) (KB_fr hf876_ rfl rfl) (KBr_fr hf878_ rfl) (funext fun j => hf876_ 9 j rfl) (funext fun j => hf878_ 153 j rfl) hq876_1 hq878_3
  have hLr878 : r876_ = r878_ := hL878.1
  have hS878 : STR a878_ := hL878.2
  have h882_ := iv_get hv878_ (k := 0) (j := 0) (l := 0) (u := 1999) rfl
  have h883_ : a878_ 0 0 = a876_ 0 0 := hf878_ 0 0 rfl
  have h884_ := iv_get hv876_ (k := 0) (j := 0) (l := 0) (u := 1999) rfl
  have h885_ : a876_ 0 0 = a 0 0 := hf876_ 0 0 rfl
  have h886_ := iv_get hv878_ (k := 146) (j := 0) (l := 0) (u := 1999) rfl
  have h887_ : a878_ 146 0 = a876_ 146 0 := hf878_ 146 0 rfl
  have h888_ := iv_get hv876_ (k := 146) (j := 0) (l := 0) (u := 1999) rfl
  have h889_ : a876_ 146 0 = a 146 0 := hf876_ 146 0 rfl
  have h890_ := iv_get hv878_ (k := 4) (j := 6) (l := 0) (u := 40) rfl
  have h891_ : a878_ 4 6 = a876_ 4 6 := hf878_ 4 6 rfl
  have h892_ := iv_get hv876_ (k := 4) (j := 6) (l := 0) (u := 40) rfl
  have h893_ : a876_ 4 6 = a 4 6 := hf876_ 4 6 rfl
  have h894_ := iv_get hv878_ (k := 146) (j := 2) (l := 0) (u := 40) rfl
  have h895_ : a878_ 146 2 = a876_ 146 2 := hf878_ 146 2 rfl
  have h896_ := iv_get hv876_ (k := 146) (j := 2) (l := 0) (u := 40) rfl
  have h897_ : a876_ 146 2 = a 146 2 := hf876_ 146 2 rfl
  have h898_ := iv_get hv878_ (k := 2) (j := 1) (l := 0) (u := 200) rfl
  have h899_ : a878_ 2 1 = a876_ 2 1 := hf878_ 2 1 rfl
  have h900_ := iv_get hv876_ (k := 2) (j := 1) (l := 0) (u := 200) rfl
  have h901_ : a876_ 2 1 = a 2 1 := hf876_ 2 1 rfl
  have h902_ := iv_get hv878_ (k := 146) (j := 22) (l := 0) (u := 200) rfl
  have h903_ : a878_ 146 22 = a876_ 146 22 := hf878_ 146 22 rfl
  have h904_ := iv_get hv876_ (k := 146) (j := 22) (l := 0) (u := 200) rfl
  have h905_ : a876_ 146 22 = a 146 22 := hf876_ 146 22 rfl
  have h906_ := iv_get hv878_ (k := 105) (j := 5) (l := 0) (u := 10) rfl
  have h907_ : a878_ 105 5 = a876_ 105 5 := hf878_ 105 5 rfl
  have h908_ := iv_get hv876_ (k := 105) (j := 5) (l := 0) (u := 10) rfl
  have h909_ : a876_ 105 5 = a 105 5 := hf876_ 105 5 rfl
  have h910_ := iv_get hv878_ (k := 146) (j := 68) (l := 0) (u := 10) rfl
  have h911_ : a878_ 146 68 = a876_ 146 68 := hf878_ 146 68 rfl
  have h912_ := iv_get hv876_ (k := 146) (j := 68) (l := 0) (u := 10) rfl
  have h913_ : a876_ 146 68 = a 146 68 := hf876_ 146 68 rfl
  exact hnext a878_ b876_ hv878_ (WFW_fr (WFW_fr hg0 hf876_ (fun _ => rfl) (fun _ => rfl)) hf878_ (fun _ => rfl) (fun _ => rfl)) (SV_fr (SV_fr hg1 hf876_ (fun _ => rfl) (fun _ => rfl)) hf878_ (fun _ => rfl) (fun _ => rfl)) (OC_fr (OC_fr hg2 hf876_ rfl rfl (fun _ => rfl) (fun _ => rfl) (fun _ => rfl) (fun _ => rfl) (fun _ => rfl)) hf878_ rfl rfl (fun _ => rfl) (fun _ => rfl) (fun _ => rfl) (fun _ => rfl) (fun _ => rfl)) hq878_0 hq878_1 (TAPE_fr (TAPE_fr hg5 hf876_ (fun _ => rfl) (fun _ => rfl)) hf878_ (fun _ => rfl) (fun _ => rfl)) (MEMR_fr (MEMR_fr hg6 hf876_ (fun _ => rfl) (fun _ => rfl) (fun _ => rfl) (fun _ => rfl) (fun _ => rfl) (fun _ => rfl) (fun _ => rfl) (fun _ => rfl) (fun _ => rfl) (fun _ => rfl)) hf878_ (fun _ => rfl) (fun _ => rfl) (fun _ => rfl) (fun _ => rfl) (fun _ => rfl) (fun _ => rfl) (fun _ => rfl) (fun _ => rfl) (fun _ => rfl) (fun _ => rfl)) (FARR_fr (FARR_fr hg7 hf876_ (fun _ => rfl) (fun _ => rfl)) hf878_ (fun _ => rfl) (fun _ => rfl)) (WISHR_fr (WISHR_fr hg8 hf876_ (fun _ => rfl) (fun _ => rfl) (fun _ => rfl) (fun _ => rfl)) hf878_ (fun _ => rfl) (fun _ => rfl) (fun _ => rfl) (fun _ => rfl)) hS878.1.2.2.1 hS878 (show a878_ 0 0 = a878_ 146 0 from by omega) (show a878_ 4 6 = a878_ 146 2 from by omega) (show a878_ 2 1 = a878_ 146 22 from by omega) (show a878_ 105 5 = a878_ 146 68 from by omega)
theorem lw_op869 (E : jxE) (d : Nat) (hd : Nat.ble 60 (d + 1) = true) (hL : E.1 ≤ 3072) (y3 : Int) (hy0 : 0 ≤ y3) (hy1 : y3 + 6 ≤ E.1) (hnext : ∀ (a b : Nat → Nat → Int) (hv : iv a) (hg0 : WFW a) (hg1 : SV a) (hg2 : OC a) (hg3 : FO a) (hg4 : FW a) (hg5 : TAPE a) (hg6 : MEMR a) (hg7 : FARR a) (hg8 : WISHR a) (hg9 : CIC a) (hg10 : STR a) (hr0 : a 0 0 = a 146 0) (hr1 : a 4 6 = a 146 2) (hr2 : a 2 1 = a 146 22) (hr3 : a 105 5 = a 146 68), jt (jxX E d 305 1189 [some (.inr (.inr (.inl 3000))), some (.inr (.inr (.inl 0))), some (.inr (.inr (.inl 146))), some (.inl y3)] [] (jxSH, a, b)) (fun v _ _ => v = [.inl 1])) (a b : Nat → Nat → Int) (hv : iv a) (hg0 : WFW a) (hg1 : SV a) (hg2 : OC a) (hg3 : FO a) (hg4 : FW a) (hg5 : TAPE a) (hg6 : MEMR a) (hg7 : FARR a) (hg8 : WISHR a) (hg9 : CIC a) (hg10 : STR a) (hr0 : a 0 0 = a 146 0) (hr1 : a 4 6 = a 146 2) (hr2 : a 2 1 = a 146 22) (hr3 : a 105 5 = a 146 68) : jt (jxX E d 305 869 [some (.inr (.inr (.inl 3000))), some (.inr (.inr (.inl 0))), some (.inr (.inr (.inl 146))), some (.inl y3)] [] (jxSH, a, b)) (fun v _ _ => v = [.inl 1]) := by
  refine jt_eq (bq_law_869 E d y3 a b) ?_
  have h914_ := iv_get hv (k := 0) (j := 0) (l := 0) (u := 1999) rfl
  have h915_ := iv_get hv (k := 146) (j := 0) (l := 0) (u := 1999) rfl
  have h916_ := iv_get hv (k := 4) (j := 6) (l := 0) (u := 40) rfl
  have h917_ := iv_get hv (k := 146) (j := 2) (l := 0) (u := 40) rfl
  have h918_ := iv_get hv (k := 2) (j := 1) (l := 0) (u := 200) rfl
  have h919_ := iv_get hv (k := 146) (j := 22) (l := 0) (u := 200) rfl
  have h920_ := iv_get hv (k := 105) (j := 5) (l := 0) (u := 10) rfl
  have h921_ := iv_get hv (k := 146) (j := 68) (l := 0) (u := 10) rfl
  have hBAS : BAS a := ⟨hv, hr0, hr1, hg6, hg7, hg8⟩
  have hring := AL_ring (b := b) (b2 := b) hBAS hg10 ((E.2 ((jxw (y3 + 1)).toNat))) ((E.2 ((jxw (y3 + 2)).toNat)))
  refine jt_bif (Nat.ble_eq_true_of_le (by omega)) ?_
  have h922_ : jxw (y3 + 1) = y3 + 1 := jxw_id (by omega) (by omega)
  refine jt_grd (by omega) ?_
  refine jt_bif (Nat.ble_eq_true_of_le (by omega)) ?_
  have h923_ : jxw (y3 + 2) = y3 + 2 := jxw_id (by omega) (by omega)
  refine jt_grd (by omega) ?_
  refine jt_eI (eq_X11_ring E d (jd_le hd rfl) (E.2 ((jxw (y3 + 1)).toNat)) (E.2 ((jxw (y3 + 2)).toNat)) a b) ?_
  refine jt_eq (bq_law_884 E d y3 a b) ?_
  refine jt_bif (Nat.ble_eq_true_of_le (by omega)) ?_
  refine jt_grd (by omega) ?_
  refine jt_bif (Nat.ble_eq_true_of_le (by omega)) ?_
  refine jt_grd (by omega) ?_
  refine jt_eI (eq_X12_ring E d (jd_le hd rfl) (E.2 ((jxw (y3 + 1)).toNat)) (E.2 ((jxw (y3 + 2)).toNat)) a b hv) ?_
  exact hnext a b hv hg0 hg1 hg2 hg3 hg4 hg5 hg6 hg7 hg8 hg9 hg10 (show a 0 0 = a 146 0 from by omega) (show a 4 6 = a 146 2 from by omega) (show a 2 1 = a 146 22 from by omega) (show a 105 5 = a 146 68 from by omega)
theorem lw_op902 (E : jxE) (d : Nat) (hd : Nat.ble 60 (d + 1) = true) (hL : E.1 ≤ 3072) (y3 : Int) (hy0 : 0 ≤ y3) (hy1 : y3 + 6 ≤ E.1) (hnext : ∀ (a b : Nat → Nat → Int) (hv : iv a) (hg0 : WFW a) (hg1 : SV a) (hg2 : OC a) (hg3 : FO a) (hg4 : FW a) (hg5 : TAPE a) (hg6 : MEMR a) (hg7 : FARR a) (hg8 : WISHR a) (hg9 : CIC a) (hg10 : STR a) (hr0 : a 0 0 = a 146 0) (hr1 : a 4 6 = a 146 2) (hr2 : a 2 1 = a 146 22) (hr3 : a 105 5 = a 146 68), jt (jxX E d 305 1189 [some (.inr (.inr (.inl 3000))), some (.inr (.inr (.inl 0))), some (.inr (.inr (.inl 146))), some (.inl y3)] [] (jxSH, a, b)) (fun v _ _ => v = [.inl 1])) (a b : Nat → Nat → Int) (hv : iv a) (hg0 : WFW a) (hg1 : SV a) (hg2 : OC a) (hg3 : FO a) (hg4 : FW a) (hg5 : TAPE a) (hg6 : MEMR a) (hg7 : FARR a) (hg8 : WISHR a) (hg9 : CIC a) (hg10 : STR a) (hr0 : a 0 0 = a 146 0) (hr1 : a 4 6 = a 146 2) (hr2 : a 2 1 = a 146 22) (hr3 : a 105 5 = a 146 68) : jt (jxX E d 305 902 [some (.inr (.inr (.inl 3000))), some (.inr (.inr (.inl 0))), some (.inr (.inr (.inl 146))), some (.inl y3)] [] (jxSH, a, b)) (fun v _ _ => v = [.inl 1]) := by
  refine jt_eq (bq_law_902 E d y3 a b) ?_
  have h924_ := iv_get hv (k := 0) (j := 0) (l := 0) (u := 1999) rfl
  have h925_ := iv_get hv (k := 146) (j := 0) (l := 0) (u := 1999) rfl
  have h926_ := iv_get hv (k := 4) (j := 6) (l := 0) (u := 40) rfl
  have h927_ := iv_get hv (k := 146) (j := 2) (l := 0) (u := 40) rfl
  have h928_ := iv_get hv (k := 2) (j := 1) (l := 0) (u := 200) rfl
  have h929_ := iv_get hv (k := 146) (j := 22) (l := 0) (u := 200) rfl
  have h930_ := iv_get hv (k := 105) (j := 5) (l := 0) (u := 10) rfl
  have h931_ := iv_get hv (k := 146) (j := 68) (l := 0) (u := 10) rfl
  have hBAS : BAS a := ⟨hv, hr0, hr1, hg6, hg7, hg8⟩
  have hring := AL_ring (b := b) (b2 := b) hBAS hg10 ((E.2 ((jxw (y3 + 1)).toNat))) ((E.2 ((jxw (y3 + 2)).toNat)))
  refine jt_bif (Nat.ble_eq_true_of_le (by omega)) ?_
  have h932_ : jxw (y3 + 1) = y3 + 1 := jxw_id (by omega) (by omega)
  refine jt_grd (by omega) ?_
  refine jt_bI (sp_X11_close E d (jd_le hd rfl) (E.2 ((jxw (y3 + 1)).toNat)) a b hv) (fun r933_ a933_ b933_ h933_ => ?_)
  obtain ⟨hv933_, hf933_, rfl, hq933_0, hq933_1⟩ := h933_
  have h934_ := iv_get hv (k := 90) (j := 12) (l := 0) (u := 6) rfl
  refine jt_eq (bq_law_912 E d y3 a933_ b) ?_
  refine jt_bif (Nat.ble_eq_true_of_le (by omega)) ?_
  refine jt_grd (by omega) ?_
  refine jt_bI (sp_X12_close E d (jd_le hd rfl) (E.2 ((jxw (y3 + 1)).toNat)) a933_ b hv933_ (OC_fr hg2 hf933_ rfl rfl (fun _ => rfl) (fun _ => rfl) (fun _ => rfl) (fun _ => rfl) (fun _ => rfl)) (FO_fr hg3 hf933_ rfl rfl (fun _ => rfl))) (fun r935_ a935_ b935_ h935_ => ?_)
  obtain ⟨hv935_, hf935_, rfl, hq935_0, hq935_1, hq935_2⟩ := h935_
  have h936_ := iv_get hv933_ (k := 146) (j := 64) (l := 0) (u := 6) rfl
  have h937_ : a933_ 146 64 = a 146 64 := hf933_ 146 64 rfl
  have h938_ := iv_get hv (k := 146) (j := 64) (l := 0) (u := 6) rfl
  have hL935 := ST_close hBAS hg10 (CLS_fr hf933_ rfl) (RFS_fr hf935_ rfl) (KFD_fr hf933_ rfl) (KFDr_fr hf935_ rfl) (KB_fr hf933_ rfl rfl) (KBr_fr hf935_ rfl) (KLS_fr hf933_ rfl) (KLSr_fr hf935_ rfl) (funext fun j => hf933_ 9 j rfl) (funext fun j => hf935_ 153 j rfl) (hf933_ 83 6 rfl) ⟨(funext fun j => hf933_ 84 j rfl), (funext fun j => hf933_ 85 j rfl), (funext fun j => hf933_ 86 j rfl)⟩ ⟨hf935_ 146 49 rfl, (funext fun j => hf935_ 178 j rfl), (funext fun j => hf935_ 179 j rfl), (funext fun j => hf935_ 180 j rfl)⟩ hq933_1 hq935_2
  have hLr935 : r933_ = r935_ := hL935.1
  have hS935 : STR a935_ := hL935.2
  have h939_ := iv_get hv935_ (k := 0) (j := 0) (l := 0) (u := 1999) rfl
  have h940_ : a935_ 0 0 = a933_ 0 0 := hf935_ 0 0 rfl
  have h941_ := iv_get hv933_ (k := 0) (j := 0) (l := 0) (u := 1999) rfl
  have h942_ : a933_ 0 0 = a 0 0 := hf933_ 0 0 rfl
  have h943_ := iv_get hv935_ (k := 146) (j := 0) (l := 0) (u := 1999) rfl
  have h944_ : a935_ 146 0 = a933_ 146 0 := hf935_ 146 0 rfl
  have h945_ := iv_get hv933_ (k := 146) (j := 0) (l := 0) (u := 1999) rfl
  have h946_ : a933_ 146 0 = a 146 0 := hf933_ 146 0 rfl
  have h947_ := iv_get hv935_ (k := 4) (j := 6) (l := 0) (u := 40) rfl
  have h948_ : a935_ 4 6 = a933_ 4 6 := hf935_ 4 6 rfl
  have h949_ := iv_get hv933_ (k := 4) (j := 6) (l := 0) (u := 40) rfl
  have h950_ : a933_ 4 6 = a 4 6 := hf933_ 4 6 rfl
  have h951_ := iv_get hv935_ (k := 146) (j := 2) (l := 0) (u := 40) rfl
  have h952_ : a935_ 146 2 = a933_ 146 2 := hf935_ 146 2 rfl
  have h953_ := iv_get hv933_ (k := 146) (j := 2) (l := 0) (u := 40) rfl
  have h954_ : a933_ 146 2 = a 146 2 := hf933_ 146 2 rfl
  have h955_ := iv_get hv935_ (k := 2) (j := 1) (l := 0) (u := 200) rfl
  have h956_ : a935_ 2 1 = a933_ 2 1 := hf935_ 2 1 rfl
  have h957_ := iv_get hv933_ (k := 2) (j := 1) (l := 0) (u := 200) rfl
  have h958_ : a933_ 2 1 = a 2 1 := hf933_ 2 1 rfl
  have h959_ := iv_get hv935_ (k := 146) (j := 22) (l := 0) (u := 200) rfl
  have h960_ : a935_ 146 22 = a933_ 146 22 := hf935_ 146 22 rfl
  have h961_ := iv_get hv933_ (k := 146) (j := 22) (l := 0) (u := 200) rfl
  have h962_ : a933_ 146 22 = a 146 22 := hf933_ 146 22 rfl
  have h963_ := iv_get hv935_ (k := 105) (j := 5) (l := 0) (u := 10) rfl
  have h964_ : a935_ 105 5 = a933_ 105 5 := hf935_ 105 5 rfl
  have h965_ := iv_get hv933_ (k := 105) (j := 5) (l := 0) (u := 10) rfl
  have h966_ : a933_ 105 5 = a 105 5 := hf933_ 105 5 rfl
  have h967_ := iv_get hv935_ (k := 146) (j := 68) (l := 0) (u := 10) rfl
  have h968_ : a935_ 146 68 = a933_ 146 68 := hf935_ 146 68 rfl
  have h969_ := iv_get hv933_ (k := 146) (j := 68) (l := 0) (u := 10) rfl
  have h970_ : a933_ 146 68 = a 146 68 := hf933_ 146 68 rfl
  exact hnext a935_ b hv935_ (WFW_fr (WFW_fr hg0 hf933_ (fun _ => rfl) (fun _ => rfl)) hf935_ (fun _ => rfl) (fun _ => rfl)) (SV_fr (SV_fr hg1 hf933_ (fun _ => rfl) (fun _ => rfl)) hf935_ (fun _ => rfl) (fun _ => rfl)) hq935_0 (FO_fr (FO_fr hg3 hf933_ rfl rfl (fun _ => rfl)) hf935_ rfl rfl (fun _ => rfl)) (FW_fr (FW_fr hg4 hf933_ rfl (fun _ => rfl)) hf935_ rfl (fun _ => rfl)) (TAPE_fr (TAPE_fr hg5 hf933_ (fun _ => rfl) (fun _ => rfl)) hf935_ (fun _ => rfl) (fun _ => rfl)) (MEMR_fr (MEMR_fr hg6 hf933_ (fun _ => rfl) (fun _ => rfl) (fun _ => rfl) (fun _ => rfl) (fun _ => rfl) (fun _ => rfl) (fun _ => rfl) (fun _ => rfl) (fun _ => rfl) (fun _ => rfl)) hf935_ (fun _ => rfl) (fun _ => rfl) (fun _ => rfl) (fun _ => rfl) (fun _ => rfl) (fun _ => rfl) (fun _ => rfl) (fun _ => rfl) (fun _ => rfl) (fun _ => rfl)) (FARR_fr (FARR_fr hg7 hf933_ (fun _ => rfl) (fun _ => rfl)) hf935_ (fun _ => rfl) (fun _ => rfl)) (WISHR_fr (WISHR_fr hg8 hf933_ (fun _ => rfl) (fun _ => rfl) (fun _ => rfl) (fun _ => rfl)) hf935_ (fun _ => rfl) (fun _ => rfl) (fun _ => rfl) (fun _ => rfl)) hS935.1.2.2.1 hS935 (show a935_ 0 0 = a935_ 146 0 from by omega) (show a935_ 4 6 = a935_ 146 2 from by omega) (show a935_ 2 1 = a935_ 146 22 from by omega) (show a935_ 105 5 = a935_ 146 68 from by omega)
theorem lw_op925 (E : jxE) (d : Nat) (hd : Nat.ble 60 (d + 1) = true) (hL : E.1 ≤ 3072) (y3 : Int) (hy0 : 0 ≤ y3) (hy1 : y3 + 6 ≤ E.1) (hnext : ∀ (a b : Nat → Nat → Int) (hv : iv a) (hg0 : WFW a) (hg1 : SV a) (hg2 : OC a) (hg3 : FO a) (hg4 : FW a) (hg5 : TAPE a) (hg6 : MEMR a) (hg7 : FARR a) (hg8 : WISHR a) (hg9 : CIC a) (hg10 : STR a) (hr0 : a 0 0 = a 146 0) (hr1 : a 4 6 = a 146 2) (hr2 : a 2 1 = a 146 22) (hr3 : a 105 5 = a 146 68), jt (jxX E d 305 1189 [some (.inr (.inr (.inl 3000))), some (.inr (.inr (.inl 0))), some (.inr (.inr (.inl 146))), some (.inl y3)] [] (jxSH, a, b)) (fun v _ _ => v = [.inl 1])) (a b : Nat → Nat → Int) (hv : iv a) (hg0 : WFW a) (hg1 : SV a) (hg2 : OC a) (hg3 : FO a) (hg4 : FW a) (hg5 : TAPE a) (hg6 : MEMR a) (hg7 : FARR a) (hg8 : WISHR a) (hg9 : CIC a) (hg10 : STR a) (hr0 : a 0 0 = a 146 0) (hr1 : a 4 6 = a 146 2) (hr2 : a 2 1 = a 146 22) (hr3 : a 105 5 = a 146 68) : jt (jxX E d 305 925 [some (.inr (.inr (.inl 3000))), some (.inr (.inr (.inl 0))), some (.inr (.inr (.inl 146))), some (.inl y3)] [] (jxSH, a, b)) (fun v _ _ => v = [.inl 1]) := by
  refine jt_eq (bq_law_925 E d y3 a b) ?_
  have h971_ := iv_get hv (k := 0) (j := 0) (l := 0) (u := 1999) rfl
  have h972_ := iv_get hv (k := 146) (j := 0) (l := 0) (u := 1999) rfl
  have h973_ := iv_get hv (k := 4) (j := 6) (l := 0) (u := 40) rfl
  have h974_ := iv_get hv (k := 146) (j := 2) (l := 0) (u := 40) rfl
  have h975_ := iv_get hv (k := 2) (j := 1) (l := 0) (u := 200) rfl
  have h976_ := iv_get hv (k := 146) (j := 22) (l := 0) (u := 200) rfl
  have h977_ := iv_get hv (k := 105) (j := 5) (l := 0) (u := 10) rfl
  have h978_ := iv_get hv (k := 146) (j := 68) (l := 0) (u := 10) rfl
  have hBAS : BAS a := ⟨hv, hr0, hr1, hg6, hg7, hg8⟩
  have hring := AL_ring (b := b) (b2 := b) hBAS hg10 ((E.2 ((jxw (y3 + 1)).toNat))) ((E.2 ((jxw (y3 + 2)).toNat)))
  refine jt_bif (Nat.ble_eq_true_of_le (by omega)) ?_
  have h979_ : jxw (y3 + 1) = y3 + 1 := jxw_id (by omega) (by omega)
  refine jt_grd (by omega) ?_
  refine jt_bif (Nat.ble_eq_true_of_le (by omega)) ?_
  have h980_ : jxw (y3 + 2) = y3 + 2 := jxw_id (by omega) (by omega)
  refine jt_grd (by omega) ?_
  refine jt_bI (sp_X11_drop E d (jd_le hd rfl) (E.2 ((jxw (y3 + 1)).toNat)) (E.2 ((jxw (y3 + 2)).toNat)) a b hv hg9) (fun r981_ a981_ b981_ h981_ => ?_)
  obtain ⟨hv981_, hf981_, rfl, hq981_0, hq981_1, hq981_2, hq981_3⟩ := h981_
  have h982_ := iv_get hv (k := 83) (j := 6) (l := 0) (u := 20) rfl
  refine jt_eq (bq_law_940 E d y3 a981_ b) ?_
  refine jt_bif (Nat.ble_eq_true_of_le (by omega)) ?_
  refine jt_grd (by omega) ?_
  refine jt_bif (Nat.ble_eq_true_of_le (by omega)) ?_
  refine jt_grd (by omega) ?_
  refine jt_bI (sp_X12_drop E d (jd_le hd rfl) (E.2 ((jxw (y3 + 1)).toNat)) (E.2 ((jxw (y3 + 2)).toNat)) a981_ b hv981_ (OC_fr hg2 hf981_ rfl rfl (fun _ => rfl) (fun _ => rfl) (fun _ => rfl) (fun _ => rfl) (fun _ => rfl))) (fun r983_ a983_ b983_ h983_ => ?_)
  obtain ⟨hv983_, hf983_, rfl, hq983_0, hq983_1, hq983_2, hq983_3, hq983_4⟩ := h983_
  have h984_ : a981_ 146 55 = a 146 55 := hf981_ 146 55 rfl
  have hL983 := ST_drop hBAS hg10 (CLS_fr hf981_ rfl) (RFS_fr hf983_ rfl) (KFD_fr hf981_ rfl) (KFDr_fr hf983_ rfl) (KB_fr hf981_ rfl rfl) (KBr_fr hf983_ rfl) (KLS_fr hf981_ rfl) (KLSr_fr hf983_ rfl) ⟨hf981_ 83 6 rfl, hf981_ 83 7 rfl⟩ ⟨(funext fun j => hf981_ 84 j rfl), (funext fun j => hf981_ 85 j rfl), (funext fun j => hf981_ 86 j rfl)⟩ ⟨hf983_ 146 49 rfl, hf983_ 146 55 rfl, (funext fun j => hf983_ 178 j rfl), (funext fun j => hf983_ 179 j rfl), (funext fun j => hf983_ 180 j rfl), (funext fun j => hf983_ 182 j rfl)⟩ hq981_2 hq981_3 hq983_2 hq983_3 hq983_4
  have hLr983 : r981_ = r983_ := hL983.1
  have hS983 : STR a983_ := hL983.2
  have h985_ := iv_get hv983_ (k := 0) (j := 0) (l := 0) (u := 1999) rfl
  have h986_ : a983_ 0 0 = a981_ 0 0 := hf983_ 0 0 rfl
  have h987_ := iv_get hv981_ (k := 0) (j := 0) (l := 0) (u := 1999) rfl
  have h988_ : a981_ 0 0 = a 0 0 := hf981_ 0 0 rfl
  have h989_ := iv_get hv983_ (k := 146) (j := 0) (l := 0) (u := 1999) rfl
  have h990_ : a983_ 146 0 = a981_ 146 0 := hf983_ 146 0 rfl
  have h991_ := iv_get hv981_ (k := 146) (j := 0) (l := 0) (u := 1999) rfl
  have h992_ : a981_ 146 0 = a 146 0 := hf981_ 146 0 rfl
  have h993_ := iv_get hv983_ (k := 4) (j := 6) (l := 0) (u := 40) rfl
  have h994_ : a983_ 4 6 = a981_ 4 6 := hf983_ 4 6 rfl
  have h995_ := iv_get hv981_ (k := 4) (j := 6) (l := 0) (u := 40) rfl
  have h996_ : a981_ 4 6 = a 4 6 := hf981_ 4 6 rfl
  have h997_ := iv_get hv983_ (k := 146) (j := 2) (l := 0) (u := 40) rfl
  have h998_ : a983_ 146 2 = a981_ 146 2 := hf983_ 146 2 rfl
  have h999_ := iv_get hv981_ (k := 146) (j := 2) (l := 0) (u := 40) rfl
  have h1000_ : a981_ 146 2 = a 146 2 := hf981_ 146 2 rfl
  have h1001_ := iv_get hv983_ (k := 2) (j := 1) (l := 0) (u := 200) rfl
  have h1002_ : a983_ 2 1 = a981_ 2 1 := hf983_ 2 1 rfl
  have h1003_ := iv_get hv981_ (k := 2) (j := 1) (l := 0) (u := 200) rfl
  have h1004_ : a981_ 2 1 = a 2 1 := hf981_ 2 1 rfl
  have h1005_ := iv_get hv983_ (k := 146) (j := 22) (l := 0) (u := 200) rfl
  have h1006_ : a983_ 146 22 = a981_ 146 22 := hf983_ 146 22 rfl
  have h1007_ := iv_get hv981_ (k := 146) (j := 22) (l := 0) (u := 200) rfl
  have h1008_ : a981_ 146 22 = a 146 22 := hf981_ 146 22 rfl
  have h1009_ := iv_get hv983_ (k := 105) (j := 5) (l := 0) (u := 10) rfl
  have h1010_ : a983_ 105 5 = a981_ 105 5 := hf983_ 105 5 rfl
  have h1011_ := iv_get hv981_ (k := 105) (j := 5) (l := 0) (u := 10) rfl
  have h1012_ : a981_ 105 5 = a 105 5 := hf981_ 105 5 rfl
  have h1013_ := iv_get hv983_ (k := 146) (j := 68) (l := 0) (u := 10) rfl
  have h1014_ : a983_ 146 68 = a981_ 146 68 := hf983_ 146 68 rfl
  have h1015_ := iv_get hv981_ (k := 146) (j := 68) (l := 0) (u := 10) rfl
  have h1016_ : a981_ 146 68 = a 146 68 := hf981_ 146 68 rfl
  exact hnext a983_ b hv983_ (WFW_fr (WFW_fr hg0 hf981_ (fun _ => rfl) (fun _ => rfl)) hf983_ (fun _ => rfl) (fun _ => rfl)) (SV_fr (SV_fr hg1 hf981_ (fun _ => rfl) (fun _ => rfl)) hf983_ (fun _ => rfl) (fun _ => rfl)) hq983_0 (FO_fr (FO_fr hg3 hf981_ rfl rfl (fun _ => rfl)) hf983_ rfl rfl (fun _ => rfl)) (FW_fr (FW_fr hg4 hf981_ rfl (fun _ => rfl)) hf983_ rfl (fun _ => rfl)) (TAPE_fr (TAPE_fr hg5 hf981_ (fun _ => rfl) (fun _ => rfl)) hf983_ (fun _ => rfl) (fun _ => rfl)) (MEMR_fr (MEMR_fr hg6 hf981_ (fun _ => rfl) (fun _ => rfl) (fun _ => rfl) (fun _ => rfl) (fun _ => rfl) (fun _ => rfl) (fun _ => rfl) (fun _ => rfl) (fun _ => rfl) (fun _ => rfl)) hf983_ (fun _ => rfl) (fun _ => rfl) (fun _ => rfl) (fun _ => rfl) (fun _ => rfl) (fun _ => rfl) (fun _ => rfl) (fun _ => rfl) (fun _ => rfl) (fun _ => rfl)) (FARR_fr (FARR_fr hg7 hf981_ (fun _ => rfl) (fun _ => rfl)) hf983_ (fun _ => rfl) (fun _ => rfl)) (WISHR_fr (WISHR_fr hg8 hf981_ (fun _ => rfl) (fun _ => rfl) (fun _ => rfl) (fun _ => rfl)) hf983_ (fun _ => rfl) (fun _ => rfl) (fun _ => rfl) (fun _ => rfl)) hS983.1.2.2.1 hS983 (show a983_ 0 0 = a983_ 146 0 from by omega) (show a983_ 4 6 = a983_ 146 2 from by omega) (show a983_ 2 1 = a983_ 146 22 from by omega) (show a983_ 105 5 = a983_ 146 68 from by omega)
theorem lw_op958 (E : jxE) (d : Nat) (hd : Nat.ble 60 (d + 1) = true) (hL : E.1 ≤ 3072) (y3 : Int) (hy0 : 0 ≤ y3) (hy1 : y3 + 6 ≤ E.1) (hnext : ∀ (a b : Nat → Nat → Int) (hv : iv a) (hg0 : WFW a) (hg1 : SV a) (hg2 : OC a) (hg3 : FO a) (hg4 : FW a) (hg5 : TAPE a) (hg6 : MEMR a) (hg7 : FARR a) (hg8 : WISHR a) (hg9 : CIC a) (hg10 : STR a) (hr0 : a 0 0 = a 146 0) (hr1 : a 4 6 = a 146 2) (hr2 : a 2 1 = a 146 22) (hr3 : a 105 5 = a 146 68), jt (jxX E d 305 1189 [some (.inr (.inr (.inl 3000))), some (.inr (.inr (.inl 0))), some (.inr (.inr (.inl 146))), some (.inl y3)] [] (jxSH, a, b)) (fun v _ _ => v = [.inl 1])) (a b : Nat → Nat → Int) (hv : iv a) (hg0 : WFW a) (hg1 : SV a) (hg2 : OC a) (hg3 : FO a) (hg4 : FW a) (hg5 : TAPE a) (hg6 : MEMR a) (hg7 : FARR a) (hg8 : WISHR a) (hg9 : CIC a) (hg10 : STR a) (hr0 : a 0 0 = a 146 0) (hr1 : a 4 6 = a 146 2) (hr2 : a 2 1 = a 146 22) (hr3 : a 105 5 = a 146 68) : jt (jxX E d 305 958 [some (.inr (.inr (.inl 3000))), some (.inr (.inr (.inl 0))), some (.inr (.inr (.inl 146))), some (.inl y3)] [] (jxSH, a, b)) (fun v _ _ => v = [.inl 1]) := by
  refine jt_eq (bq_law_958 E d y3 a b) ?_
  have h1017_ := iv_get hv (k := 0) (j := 0) (l := 0) (u := 1999) rfl
  have h1018_ := iv_get hv (k := 146) (j := 0) (l := 0) (u := 1999) rfl
  have h1019_ := iv_get hv (k := 4) (j := 6) (l := 0) (u := 40) rfl
  have h1020_ := iv_get hv (k := 146) (j := 2) (l := 0) (u := 40) rfl
  have h1021_ := iv_get hv (k := 2) (j := 1) (l := 0) (u := 200) rfl
  have h1022_ := iv_get hv (k := 146) (j := 22) (l := 0) (u := 200) rfl
  have h1023_ := iv_get hv (k := 105) (j := 5) (l := 0) (u := 10) rfl
  have h1024_ := iv_get hv (k := 146) (j := 68) (l := 0) (u := 10) rfl
  have hBAS : BAS a := ⟨hv, hr0, hr1, hg6, hg7, hg8⟩
  have hring := AL_ring (b := b) (b2 := b) hBAS hg10 ((E.2 ((jxw (y3 + 1)).toNat))) ((E.2 ((jxw (y3 + 2)).toNat)))
  refine jt_bif (Nat.ble_eq_true_of_le (by omega)) ?_
  have h1025_ : jxw (y3 + 1) = y3 + 1 := jxw_id (by omega) (by omega)
  refine jt_grd (by omega) ?_
  refine jt_bif (Nat.ble_eq_true_of_le (by omega)) ?_
  have h1026_ : jxw (y3 + 2) = y3 + 2 := jxw_id (by omega) (by omega)
  refine jt_grd (by omega) ?_
  refine jt_eI (eq_X11_offers E d (jd_le hd rfl) (E.2 ((jxw (y3 + 1)).toNat)) (E.2 ((jxw (y3 + 2)).toNat)) a b) ?_
  refine jt_eq (bq_law_973 E d y3 a b) ?_
  refine jt_bif (Nat.ble_eq_true_of_le (by omega)) ?_
  refine jt_grd (by omega) ?_
  refine jt_bif (Nat.ble_eq_true_of_le (by omega)) ?_
  refine jt_grd (by omega) ?_
  refine jt_eI (eq_X12_offers E d (jd_le hd rfl) (E.2 ((jxw (y3 + 1)).toNat)) (E.2 ((jxw (y3 + 2)).toNat)) a b hv) ?_
  exact hnext a b hv hg0 hg1 hg2 hg3 hg4 hg5 hg6 hg7 hg8 hg9 hg10 (show a 0 0 = a 146 0 from by omega) (show a 4 6 = a 146 2 from by omega) (show a 2 1 = a 146 22 from by omega) (show a 105 5 = a 146 68 from by omega)
theorem lw_op991 (E : jxE) (d : Nat) (hd : Nat.ble 60 (d + 1) = true) (hL : E.1 ≤ 3072) (y3 : Int) (hy0 : 0 ≤ y3) (hy1 : y3 + 6 ≤ E.1) (hnext : ∀ (a b : Nat → Nat → Int) (hv : iv a) (hg0 : WFW a) (hg1 : SV a) (hg2 : OC a) (hg3 : FO a) (hg4 : FW a) (hg5 : TAPE a) (hg6 : MEMR a) (hg7 : FARR a) (hg8 : WISHR a) (hg9 : CIC a) (hg10 : STR a) (hr0 : a 0 0 = a 146 0) (hr1 : a 4 6 = a 146 2) (hr2 : a 2 1 = a 146 22) (hr3 : a 105 5 = a 146 68), jt (jxX E d 305 1189 [some (.inr (.inr (.inl 3000))), some (.inr (.inr (.inl 0))), some (.inr (.inr (.inl 146))), some (.inl y3)] [] (jxSH, a, b)) (fun v _ _ => v = [.inl 1])) (a b : Nat → Nat → Int) (hv : iv a) (hg0 : WFW a) (hg1 : SV a) (hg2 : OC a) (hg3 : FO a) (hg4 : FW a) (hg5 : TAPE a) (hg6 : MEMR a) (hg7 : FARR a) (hg8 : WISHR a) (hg9 : CIC a) (hg10 : STR a) (hr0 : a 0 0 = a 146 0) (hr1 : a 4 6 = a 146 2) (hr2 : a 2 1 = a 146 22) (hr3 : a 105 5 = a 146 68) : jt (jxX E d 305 991 [some (.inr (.inr (.inl 3000))), some (.inr (.inr (.inl 0))), some (.inr (.inr (.inl 146))), some (.inl y3)] [] (jxSH, a, b)) (fun v _ _ => v = [.inl 1]) := by
  refine jt_eq (bq_law_991 E d y3 a b) ?_
  have h1027_ := iv_get hv (k := 0) (j := 0) (l := 0) (u := 1999) rfl
  have h1028_ := iv_get hv (k := 146) (j := 0) (l := 0) (u := 1999) rfl
  have h1029_ := iv_get hv (k := 4) (j := 6) (l := 0) (u := 40) rfl
  have h1030_ := iv_get hv (k := 146) (j := 2) (l := 0) (u := 40) rfl
  have h1031_ := iv_get hv (k := 2) (j := 1) (l := 0) (u := 200) rfl
  have h1032_ := iv_get hv (k := 146) (j := 22) (l := 0) (u := 200) rfl
  have h1033_ := iv_get hv (k := 105) (j := 5) (l := 0) (u := 10) rfl
  have h1034_ := iv_get hv (k := 146) (j := 68) (l := 0) (u := 10) rfl
  have hBAS : BAS a := ⟨hv, hr0, hr1, hg6, hg7, hg8⟩
  have hring := AL_ring (b := b) (b2 := b) hBAS hg10 ((E.2 ((jxw (y3 + 1)).toNat))) ((E.2 ((jxw (y3 + 2)).toNat)))
  refine jt_bif (Nat.ble_eq_true_of_le (by omega)) ?_
  have h1035_ : jxw (y3 + 1) = y3 + 1 := jxw_id (by omega) (by omega)
  refine jt_grd (by omega) ?_
  refine jt_bI (sp_X11_rates E d (jd_le hd rfl) (E.2 ((jxw (y3 + 1)).toNat)) a b hv) (fun r1036_ a1036_ b1036_ h1036_ => ?_)
  obtain ⟨hv1036_, hf1036_, rfl, hq1036_0, hq1036_1, hq1036_2, hq1036_3, hq1036_4⟩ := h1036_
  have h1037_ := iv_get hv1036_ (k := 2) (j := 1) (l := 0) (u := 200) rfl
  have h1038_ := iv_get hv1036_ (k := 105) (j := 5) (l := 0) (u := 10) rfl
  refine jt_eq (bq_law_1001 E d y3 a1036_ b) ?_
  refine jt_bif (Nat.ble_eq_true_of_le (by omega)) ?_
  refine jt_grd (by omega) ?_
  refine jt_bI (sp_X12_rates E d (jd_le hd rfl) (E.2 ((jxw (y3 + 1)).toNat)) a1036_ b hv1036_) (fun r1039_ a1039_ b1039_ h1039_ => ?_)
  obtain ⟨hv1039_, hf1039_, rfl, hq1039_0, hq1039_1, hq1039_2, hq1039_3, hq1039_4, hq1039_5⟩ := h1039_
  have h1040_ := iv_get hv1036_ (k := 146) (j := 22) (l := 0) (u := 200) rfl
  have h1041_ : a1036_ 146 22 = a 146 22 := hf1036_ 146 22 rfl
  have h1042_ := iv_get hv1036_ (k := 146) (j := 68) (l := 0) (u := 10) rfl
  have h1043_ : a1036_ 146 68 = a 146 68 := hf1036_ 146 68 rfl
  have h1044_ := iv_get hv1039_ (k := 146) (j := 68) (l := 0) (u := 10) rfl
  have h1045_ := iv_get hv1039_ (k := 146) (j := 22) (l := 0) (u := 200) rfl
  have hfin1039 := RATE_fin hg5 hr2 hr3 hq1036_1 hq1036_2 hq1036_3 hq1039_1 hq1039_4 hq1039_5 (fun j => hf1036_ 164 j rfl) (hf1036_ 146 22 rfl) (hf1036_ 146 68 rfl) (hf1039_ 2 1 rfl) (hf1039_ 105 5 rfl)
  clear hq1036_0 hq1036_1 hq1036_2 hq1036_3 hq1039_0 hq1039_1 hq1039_2 hq1039_3 hq1039_4 hq1039_5
  have h1046_ := iv_get hv1039_ (k := 0) (j := 0) (l := 0) (u := 1999) rfl
  have h1047_ : a1039_ 0 0 = a1036_ 0 0 := hf1039_ 0 0 rfl
  have h1048_ := iv_get hv1036_ (k := 0) (j := 0) (l := 0) (u := 1999) rfl
  have h1049_ : a1036_ 0 0 = a 0 0 := hf1036_ 0 0 rfl
  have h1050_ := iv_get hv1039_ (k := 146) (j := 0) (l := 0) (u := 1999) rfl
  have h1051_ : a1039_ 146 0 = a1036_ 146 0 := hf1039_ 146 0 rfl
  have h1052_ := iv_get hv1036_ (k := 146) (j := 0) (l := 0) (u := 1999) rfl
  have h1053_ : a1036_ 146 0 = a 146 0 := hf1036_ 146 0 rfl
  have h1054_ := iv_get hv1039_ (k := 4) (j := 6) (l := 0) (u := 40) rfl
  have h1055_ : a1039_ 4 6 = a1036_ 4 6 := hf1039_ 4 6 rfl
  have h1056_ := iv_get hv1036_ (k := 4) (j := 6) (l := 0) (u := 40) rfl
  have h1057_ : a1036_ 4 6 = a 4 6 := hf1036_ 4 6 rfl
  have h1058_ := iv_get hv1039_ (k := 146) (j := 2) (l := 0) (u := 40) rfl
  have h1059_ : a1039_ 146 2 = a1036_ 146 2 := hf1039_ 146 2 rfl
  have h1060_ := iv_get hv1036_ (k := 146) (j := 2) (l := 0) (u := 40) rfl
  have h1061_ : a1036_ 146 2 = a 146 2 := hf1036_ 146 2 rfl
  have h1062_ := iv_get hv1039_ (k := 2) (j := 1) (l := 0) (u := 200) rfl
  have h1063_ : a1039_ 2 1 = a1036_ 2 1 := hf1039_ 2 1 rfl
  have h1064_ := iv_get hv1039_ (k := 105) (j := 5) (l := 0) (u := 10) rfl
  have h1065_ : a1039_ 105 5 = a1036_ 105 5 := hf1039_ 105 5 rfl
  exact hnext a1039_ b hv1039_ (WFW_fr (WFW_fr hg0 hf1036_ (fun _ => rfl) (fun _ => rfl)) hf1039_ (fun _ => rfl) (fun _ => rfl)) (SV_fr (SV_fr hg1 hf1036_ (fun _ => rfl) (fun _ => rfl)) hf1039_ (fun _ => rfl) (fun _ => rfl)) (OC_fr (OC_fr hg2 hf1036_ rfl rfl (fun _ => rfl) (fun _ => rfl) (fun _ => rfl) (fun _ => rfl) (fun _ => rfl)) hf1039_ rfl rfl (fun _ => rfl) (fun _ => rfl) (fun _ => rfl) (fun _ => rfl) (fun _ => rfl)) (FO_fr (FO_fr hg3 hf1036_ rfl rfl (fun _ => rfl)) hf1039_ rfl rfl (fun _ => rfl)) (FW_fr (FW_fr hg4 hf1036_ rfl (fun _ => rfl)) hf1039_ rfl (fun _ => rfl)) (TAPE_fr (TAPE_fr hg5 hf1036_ (fun _ => rfl) (fun _ => rfl)) hf1039_ (fun _ => rfl) (fun _ => rfl)) (MEMR_fr (MEMR_fr hg6 hf1036_ (fun _ => rfl) (fun _ => rfl) (fun _ => rfl) (fun _ => rfl) (fun _ => rfl) (fun _ => rfl) (fun _ => rfl) (fun _ => rfl) (fun _ => rfl) (fun _ => rfl)) hf1039_ (fun _ => rfl) (fun _ => rfl) (fun _ => rfl) (fun _ => rfl) (fun _ => rfl) (fun _ => rfl) (fun _ => rfl) (fun _ => rfl) (fun _ => rfl) (fun _ => rfl)) (FARR_fr (FARR_fr hg7 hf1036_ (fun _ => rfl) (fun _ => rfl)) hf1039_ (fun _ => rfl) (fun _ => rfl)) (WISHR_fr (WISHR_fr hg8 hf1036_ (fun _ => rfl) (fun _ => rfl) (fun _ => rfl) (fun _ => rfl)) hf1039_ (fun _ => rfl) (fun _ => rfl) (fun _ => rfl) (fun _ => rfl)) (CIC_fr (CIC_fr hg9 hf1036_ rfl rfl rfl rfl (fun _ => rfl) (fun _ => rfl) (fun _ => rfl) (fun _ => rfl) (fun _ => rfl) (fun _ => rfl) (fun _ => rfl) (fun _ => rfl) (fun _ => rfl) (fun _ => rfl)) hf1039_ rfl rfl rfl rfl (fun _ => rfl) (fun _ => rfl) (fun _ => rfl) (fun _ => rfl) (fun _ => rfl) (fun _ => rfl) (fun _ => rfl) (fun _ => rfl) (fun _ => rfl) (fun _ => rfl)) (STR_fr (STR_fr hg10 hf1036_ rfl rfl rfl (fun _ => rfl) (fun _ => rfl) rfl rfl (fun _ => rfl) (fun _ => rfl) (fun _ => rfl) (fun _ => rfl) (fun _ => rfl) (fun _ => rfl) (fun _ => rfl) (fun _ => rfl) (fun _ => rfl) (fun _ => rfl) (fun _ => rfl) rfl rfl (fun _ => rfl) (fun _ => rfl) (fun _ => rfl) (fun _ => rfl) (fun _ => rfl) (fun _ => rfl) rfl (fun _ => rfl) (fun _ => rfl) rfl rfl rfl rfl rfl rfl (fun _ => rfl) (fun _ => rfl) (fun _ => rfl) (fun _ => rfl) (fun _ => rfl) (fun _ => rfl) (fun _ => rfl) (fun _ => rfl) (fun _ => rfl) (fun _ => rfl) (fun _ => rfl) (fun _ => rfl) (fun _ => rfl) (fun _ => rfl) (fun _ => rfl) (fun _ => rfl) (fun _ => rfl) (fun _ => rfl) (fun _ => rfl) (fun _ => rfl)) hf1039_ rfl rfl rfl (fun _ => rfl) (fun _ => rfl) rfl rfl (fun _ => rfl) (fun _ => rfl) (fun _ => rfl) (fun _ => rfl) (fun _ => rfl) (fun _ => rfl) (fun _ => rfl) (fun _ => rfl) (fun _ => rfl) (fun _ => rfl) (fun _ => rfl) rfl rfl (fun _ => rfl) (fun _ => rfl) (fun _ => rfl) (fun _ => rfl) (fun _ => rfl) (fun _ => rfl) rfl (fun _ => rfl) (fun _ => rfl) rfl rfl rfl rfl rfl rfl (fun _ => rfl) (fun _ => rfl) (fun _ => rfl) (fun _ => rfl) (fun _ => rfl) (fun _ => rfl) (fun _ => rfl) (fun _ => rfl) (fun _ => rfl) (fun _ => rfl) (fun _ => rfl) (fun _ => rfl) (fun _ => rfl) (fun _ => rfl) (fun _ => rfl) (fun _ => rfl) (fun _ => rfl) (fun _ => rfl) (fun _ => rfl) (fun _ => rfl)) (show a1039_ 0 0 = a1039_ 146 0 from by omega) (show a1039_ 4 6 = a1039_ 146 2 from by omega) (show a1039_ 2 1 = a1039_ 146 22 from by omega) (show a1039_ 105 5 = a1039_ 146 68 from by omega)
theorem lw_op1014 (E : jxE) (d : Nat) (hd : Nat.ble 60 (d + 1) = true) (hL : E.1 ≤ 3072) (y3 : Int) (hy0 : 0 ≤ y3) (hy1 : y3 + 6 ≤ E.1) (hnext : ∀ (a b : Nat → Nat → Int) (hv : iv a) (hg0 : WFW a) (hg1 : SV a) (hg2 : OC a) (hg3 : FO a) (hg4 : FW a) (hg5 : TAPE a) (hg6 : MEMR a) (hg7 : FARR a) (hg8 : WISHR a) (hg9 : CIC a) (hg10 : STR a) (hr0 : a 0 0 = a 146 0) (hr1 : a 4 6 = a 146 2) (hr2 : a 2 1 = a 146 22) (hr3 : a 105 5 = a 146 68), jt (jxX E d 305 1189 [some (.inr (.inr (.inl 3000))), some (.inr (.inr (.inl 0))), some (.inr (.inr (.inl 146))), some (.inl y3)] [] (jxSH, a, b)) (fun v _ _ => v = [.inl 1])) (a b : Nat → Nat → Int) (hv : iv a) (hg0 : WFW a) (hg1 : SV a) (hg2 : OC a) (hg3 : FO a) (hg4 : FW a) (hg5 : TAPE a) (hg6 : MEMR a) (hg7 : FARR a) (hg8 : WISHR a) (hg9 : CIC a) (hg10 : STR a) (hr0 : a 0 0 = a 146 0) (hr1 : a 4 6 = a 146 2) (hr2 : a 2 1 = a 146 22) (hr3 : a 105 5 = a 146 68) : jt (jxX E d 305 1014 [some (.inr (.inr (.inl 3000))), some (.inr (.inr (.inl 0))), some (.inr (.inr (.inl 146))), some (.inl y3)] [] (jxSH, a, b)) (fun v _ _ => v = [.inl 1]) := by
  refine jt_eq (bq_law_1014 E d y3 a b) ?_
  have h1066_ := iv_get hv (k := 0) (j := 0) (l := 0) (u := 1999) rfl
  have h1067_ := iv_get hv (k := 146) (j := 0) (l := 0) (u := 1999) rfl
  have h1068_ := iv_get hv (k := 4) (j := 6) (l := 0) (u := 40) rfl
  have h1069_ := iv_get hv (k := 146) (j := 2) (l := 0) (u := 40) rfl
  have h1070_ := iv_get hv (k := 2) (j := 1) (l := 0) (u := 200) rfl
  have h1071_ := iv_get hv (k := 146) (j := 22) (l := 0) (u := 200) rfl
  have h1072_ := iv_get hv (k := 105) (j := 5) (l := 0) (u := 10) rfl
  have h1073_ := iv_get hv (k := 146) (j := 68) (l := 0) (u := 10) rfl
  have hBAS : BAS a := ⟨hv, hr0, hr1, hg6, hg7, hg8⟩
  have hring := AL_ring (b := b) (b2 := b) hBAS hg10 ((E.2 ((jxw (y3 + 1)).toNat))) ((E.2 ((jxw (y3 + 2)).toNat)))
  refine jt_bif (Nat.ble_eq_true_of_le (by omega)) ?_
  have h1074_ : jxw (y3 + 1) = y3 + 1 := jxw_id (by omega) (by omega)
  refine jt_grd (by omega) ?_
  refine jt_bif (Nat.ble_eq_true_of_le (by omega)) ?_
  have h1075_ : jxw (y3 + 2) = y3 + 2 := jxw_id (by omega) (by omega)
  refine jt_grd (by omega) ?_
  refine jt_bif (Nat.ble_eq_true_of_le (by omega)) ?_
  have h1076_ : jxw (y3 + 3) = y3 + 3 := jxw_id (by omega) (by omega)
  refine jt_grd (by omega) ?_
  refine jt_bif (Nat.ble_eq_true_of_le (by omega)) ?_
  have h1077_ : jxw (y3 + 4) = y3 + 4 := jxw_id (by omega) (by omega)
  refine jt_grd (by omega) ?_
  refine jt_bI (sp_X11_price E d (jd_le hd rfl) (E.2 ((jxw (y3 + 1)).toNat)) (E.2 ((jxw (y3 + 2)).toNat)) (E.2 ((jxw (y3 + 3)).toNat)) (E.2 ((jxw (y3 + 4)).toNat)) a b hv) (fun r1078_ a1078_ b1078_ h1078_ => ?_)
  obtain ⟨rfl, rfl, hq1078_0, hq1078_1, hq1078_2⟩ := h1078_
  refine jt_eq (bq_law_1039 E d y3 a b) ?_
  refine jt_bif (Nat.ble_eq_true_of_le (by omega)) ?_
  refine jt_grd (by omega) ?_
  refine jt_bif (Nat.ble_eq_true_of_le (by omega)) ?_
  refine jt_grd (by omega) ?_
  refine jt_bif (Nat.ble_eq_true_of_le (by omega)) ?_
  refine jt_grd (by omega) ?_
  refine jt_bif (Nat.ble_eq_true_of_le (by omega)) ?_
  refine jt_grd (by omega) ?_
  refine jt_bI (sp_X12_price E d (jd_le hd rfl) (E.2 ((jxw (y3 + 1)).toNat)) (E.2 ((jxw (y3 + 2)).toNat)) (E.2 ((jxw (y3 + 3)).toNat)) (E.2 ((jxw (y3 + 4)).toNat)) a b hv) (fun r1079_ a1079_ b1079_ h1079_ => ?_)
  obtain ⟨rfl, rfl, hq1079_0, hq1079_1, hq1079_2⟩ := h1079_
  refine jt_eq (bq_law_1064 E d y3 a b) ?_
  exact hnext a b hv hg0 hg1 hg2 hg3 hg4 hg5 hg6 hg7 hg8 hg9 hg10 (show a 0 0 = a 146 0 from by omega) (show a 4 6 = a 146 2 from by omega) (show a 2 1 = a 146 22 from by omega) (show a 105 5 = a 146 68 from by omega)
theorem lw_op1067 (E : jxE) (d : Nat) (hd : Nat.ble 60 (d + 1) = true) (hL : E.1 ≤ 3072) (y3 : Int) (hy0 : 0 ≤ y3) (hy1 : y3 + 6 ≤ E.1) (hnext : ∀ (a b : Nat → Nat → Int) (hv : iv a) (hg0 : WFW a) (hg1 : SV a) (hg2 : OC a) (hg3 : FO a) (hg4 : FW a) (hg5 : TAPE a) (hg6 : MEMR a) (hg7 : FARR a) (hg8 : WISHR a) (hg9 : CIC a) (hg10 : STR a) (hr0 : a 0 0 = a 146 0) (hr1 : a 4 6 = a 146 2) (hr2 : a 2 1 = a 146 22) (hr3 : a 105 5 = a 146 68), jt (jxX E d 305 1189 [some (.inr (.inr (.inl 3000))), some (.inr (.inr (.inl 0))), some (.inr (.inr (.inl 146))), some (.inl y3)] [] (jxSH, a, b)) (fun v _ _ => v = [.inl 1])) (a b : Nat → Nat → Int) (hv : iv a) (hg0 : WFW a) (hg1 : SV a) (hg2 : OC a) (hg3 : FO a) (hg4 : FW a) (hg5 : TAPE a) (hg6 : MEMR a) (hg7 : FARR a) (hg8 : WISHR a) (hg9 : CIC a) (hg10 : STR a) (hr0 : a 0 0 = a 146 0) (hr1 : a 4 6 = a 146 2) (hr2 : a 2 1 = a 146 22) (hr3 : a 105 5 = a 146 68) : jt (jxX E d 305 1067 [some (.inr (.inr (.inl 3000))), some (.inr (.inr (.inl 0))), some (.inr (.inr (.inl 146))), some (.inl y3)] [] (jxSH, a, b)) (fun v _ _ => v = [.inl 1]) := by
  refine jt_eq (bq_law_1067 E d y3 a b) ?_
  have h1080_ := iv_get hv (k := 0) (j := 0) (l := 0) (u := 1999) rfl
  have h1081_ := iv_get hv (k := 146) (j := 0) (l := 0) (u := 1999) rfl
  have h1082_ := iv_get hv (k := 4) (j := 6) (l := 0) (u := 40) rfl
  have h1083_ := iv_get hv (k := 146) (j := 2) (l := 0) (u := 40) rfl
  have h1084_ := iv_get hv (k := 2) (j := 1) (l := 0) (u := 200) rfl
  have h1085_ := iv_get hv (k := 146) (j := 22) (l := 0) (u := 200) rfl
  have h1086_ := iv_get hv (k := 105) (j := 5) (l := 0) (u := 10) rfl
  have h1087_ := iv_get hv (k := 146) (j := 68) (l := 0) (u := 10) rfl
  have hBAS : BAS a := ⟨hv, hr0, hr1, hg6, hg7, hg8⟩
  have hring := AL_ring (b := b) (b2 := b) hBAS hg10 ((E.2 ((jxw (y3 + 1)).toNat))) ((E.2 ((jxw (y3 + 2)).toNat)))
  refine jt_bif (Nat.ble_eq_true_of_le (by omega)) ?_
  have h1088_ : jxw (y3 + 1) = y3 + 1 := jxw_id (by omega) (by omega)
  refine jt_grd (by omega) ?_
  refine jt_bif (Nat.ble_eq_true_of_le (by omega)) ?_
  have h1089_ : jxw (y3 + 2) = y3 + 2 := jxw_id (by omega) (by omega)
  refine jt_grd (by omega) ?_
  refine jt_bif (Nat.ble_eq_true_of_le (by omega)) ?_
  have h1090_ : jxw (y3 + 3) = y3 + 3 := jxw_id (by omega) (by omega)
  refine jt_grd (by omega) ?_
  refine jt_bI (sp_X11_stamps E d (jd_le hd rfl) (E.2 ((jxw (y3 + 1)).toNat)) (E.2 ((jxw (y3 + 2)).toNat)) (E.2 ((jxw (y3 + 3)).toNat)) a b hv) (fun r1091_ a1091_ b1091_ h1091_ => ?_)
  obtain ⟨hv1091_, hf1091_, rfl, hq1091_0, hq1091_1⟩ := h1091_
  refine jt_eq (bq_law_1087 E d y3 a1091_ b) ?_
  refine jt_bif (Nat.ble_eq_true_of_le (by omega)) ?_
  refine jt_grd (by omega) ?_
  refine jt_bif (Nat.ble_eq_true_of_le (by omega)) ?_
  refine jt_grd (by omega) ?_
  refine jt_bif (Nat.ble_eq_true_of_le (by omega)) ?_
  refine jt_grd (by omega) ?_
  refine jt_bI (sp_X12_stamps E d (jd_le hd rfl) (E.2 ((jxw (y3 + 1)).toNat)) (E.2 ((jxw (y3 + 2)).toNat)) (E.2 ((jxw (y3 + 3)).toNat)) a1091_ b hv1091_ (SV_fr hg1 hf1091_ (fun _ => rfl) (fun _ => rfl))) (fun r1092_ a1092_ b1092_ h1092_ => ?_)
  obtain ⟨hv1092_, hf1092_, rfl, hq1092_0, hq1092_1, hq1092_2⟩ := h1092_
  refine jt_eq (bq_law_1107 E d y3 a1092_ b) ?_
  have h1093_ := iv_get hv1092_ (k := 0) (j := 0) (l := 0) (u := 1999) rfl
  have h1094_ : a1092_ 0 0 = a1091_ 0 0 := hf1092_ 0 0 rfl
  have h1095_ := iv_get hv1091_ (k := 0) (j := 0) (l := 0) (u := 1999) rfl
  have h1096_ : a1091_ 0 0 = a 0 0 := hf1091_ 0 0 rfl
  have h1097_ := iv_get hv1092_ (k := 146) (j := 0) (l := 0) (u := 1999) rfl
  have h1098_ : a1092_ 146 0 = a1091_ 146 0 := hf1092_ 146 0 rfl
  have h1099_ := iv_get hv1091_ (k := 146) (j := 0) (l := 0) (u := 1999) rfl
  have h1100_ : a1091_ 146 0 = a 146 0 := hf1091_ 146 0 rfl
  have h1101_ := iv_get hv1092_ (k := 4) (j := 6) (l := 0) (u := 40) rfl
  have h1102_ : a1092_ 4 6 = a1091_ 4 6 := hf1092_ 4 6 rfl
  have h1103_ := iv_get hv1091_ (k := 4) (j := 6) (l := 0) (u := 40) rfl
  have h1104_ : a1091_ 4 6 = a 4 6 := hf1091_ 4 6 rfl
  have h1105_ := iv_get hv1092_ (k := 146) (j := 2) (l := 0) (u := 40) rfl
  have h1106_ : a1092_ 146 2 = a1091_ 146 2 := hf1092_ 146 2 rfl
  have h1107_ := iv_get hv1091_ (k := 146) (j := 2) (l := 0) (u := 40) rfl
  have h1108_ : a1091_ 146 2 = a 146 2 := hf1091_ 146 2 rfl
  have h1109_ := iv_get hv1092_ (k := 2) (j := 1) (l := 0) (u := 200) rfl
  have h1110_ : a1092_ 2 1 = a1091_ 2 1 := hf1092_ 2 1 rfl
  have h1111_ := iv_get hv1091_ (k := 2) (j := 1) (l := 0) (u := 200) rfl
  have h1112_ : a1091_ 2 1 = a 2 1 := hf1091_ 2 1 rfl
  have h1113_ := iv_get hv1092_ (k := 146) (j := 22) (l := 0) (u := 200) rfl
  have h1114_ : a1092_ 146 22 = a1091_ 146 22 := hf1092_ 146 22 rfl
  have h1115_ := iv_get hv1091_ (k := 146) (j := 22) (l := 0) (u := 200) rfl
  have h1116_ : a1091_ 146 22 = a 146 22 := hf1091_ 146 22 rfl
  have h1117_ := iv_get hv1092_ (k := 105) (j := 5) (l := 0) (u := 10) rfl
  have h1118_ : a1092_ 105 5 = a1091_ 105 5 := hf1092_ 105 5 rfl
  have h1119_ := iv_get hv1091_ (k := 105) (j := 5) (l := 0) (u := 10) rfl
  have h1120_ : a1091_ 105 5 = a 105 5 := hf1091_ 105 5 rfl
  have h1121_ := iv_get hv1092_ (k := 146) (j := 68) (l := 0) (u := 10) rfl
  have h1122_ : a1092_ 146 68 = a1091_ 146 68 := hf1092_ 146 68 rfl
  have h1123_ := iv_get hv1091_ (k := 146) (j := 68) (l := 0) (u := 10) rfl
  have h1124_ : a1091_ 146 68 = a 146 68 := hf1091_ 146 68 rfl
  exact hnext a1092_ b hv1092_ (WFW_fr (WFW_fr hg0 hf1091_ (fun _ => rfl) (fun _ => rfl)) hf1092_ (fun _ => rfl) (fun _ => rfl)) hq1092_1 (OC_fr (OC_fr hg2 hf1091_ rfl rfl (fun _ => rfl) (fun _ => rfl) (fun _ => rfl) (fun _ => rfl) (fun _ => rfl)) hf1092_ rfl rfl (fun _ => rfl) (fun _ => rfl) (fun _ => rfl) (fun _ => rfl) (fun _ => rfl)) (FO_fr (FO_fr hg3 hf1091_ rfl rfl (fun _ => rfl)) hf1092_ rfl rfl (fun _ => rfl)) (FW_fr (FW_fr hg4 hf1091_ rfl (fun _ => rfl)) hf1092_ rfl (fun _ => rfl)) (TAPE_fr (TAPE_fr hg5 hf1091_ (fun _ => rfl) (fun _ => rfl)) hf1092_ (fun _ => rfl) (fun _ => rfl)) (MEMR_fr (MEMR_fr hg6 hf1091_ (fun _ => rfl) (fun _ => rfl) (fun _ => rfl) (fun _ => rfl) (fun _ => rfl) (fun _ => rfl) (fun _ => rfl) (fun _ => rfl) (fun _ => rfl) (fun _ => rfl)) hf1092_ (fun _ => rfl) (fun _ => rfl) (fun _ => rfl) (fun _ => rfl) (fun _ => rfl) (fun _ => rfl) (fun _ => rfl) (fun _ => rfl) (fun _ => rfl) (fun _ => rfl)) (FARR_fr (FARR_fr hg7 hf1091_ (fun _ => rfl) (fun _ => rfl)) hf1092_ (fun _ => rfl) (fun _ => rfl)) (WISHR_fr (WISHR_fr hg8 hf1091_ (fun _ => rfl) (fun _ => rfl) (fun _ => rfl) (fun _ => rfl)) hf1092_ (fun _ => rfl) (fun _ => rfl) (fun _ => rfl) (fun _ => rfl)) (CIC_fr (CIC_fr hg9 hf1091_ rfl rfl rfl rfl (fun _ => rfl) (fun _ => rfl) (fun _ => rfl) (fun _ => rfl) (fun _ => rfl) (fun _ => rfl) (fun _ => rfl) (fun _ => rfl) (fun _ => rfl) (fun _ => rfl)) hf1092_ rfl rfl rfl rfl (fun _ => rfl) (fun _ => rfl) (fun _ => rfl) (fun _ => rfl) (fun _ => rfl) (fun _ => rfl) (fun _ => rfl) (fun _ => rfl) (fun _ => rfl) (fun _ => rfl)) (STR_fr (STR_fr hg10 hf1091_ rfl rfl rfl (fun _ => rfl) (fun _ => rfl) rfl rfl (fun _ => rfl) (fun _ => rfl) (fun _ => rfl) (fun _ => rfl) (fun _ => rfl) (fun _ => rfl) (fun _ => rfl) (fun _ => rfl) (fun _ => rfl) (fun _ => rfl) (fun _ => rfl) rfl rfl (fun _ => rfl) (fun _ => rfl) (fun _ => rfl) (fun _ => rfl) (fun _ => rfl) (fun _ => rfl) rfl (fun _ => rfl) (fun _ => rfl) rfl rfl rfl rfl rfl rfl (fun _ => rfl) (fun _ => rfl) (fun _ => rfl) (fun _ => rfl) (fun _ => rfl) (fun _ => rfl) (fun _ => rfl) (fun _ => rfl) (fun _ => rfl) (fun _ => rfl) (fun _ => rfl) (fun _ => rfl) (fun _ => rfl) (fun _ => rfl) (fun _ => rfl) (fun _ => rfl) (fun _ => rfl) (fun _ => rfl) (fun _ => rfl) (fun _ => rfl)) hf1092_ rfl rfl rfl (fun _ => rfl) (fun _ => rfl) rfl rfl (fun _ => rfl) (fun _ => rfl) (fun _ => rfl) (fun _ => rfl) (fun _ => rfl) (fun _ => rfl) (fun _ => rfl) (fun _ => rfl) (fun _ => rfl) (fun _ => rfl) (fun _ => rfl) rfl rfl (fun _ => rfl) (fun _ => rfl) (fun _ => rfl) (fun _ => rfl) (fun _ => rfl) (fun _ => rfl) rfl (fun _ => rfl) (fun _ => rfl) rfl rfl rfl rfl rfl rfl (fun _ => rfl) (fun _ => rfl) (fun _ => rfl) (fun _ => rfl) (fun _ => rfl) (fun _ => rfl) (fun _ => rfl) (fun _ => rfl) (fun _ => rfl) (fun _ => rfl) (fun _ => rfl) (fun _ => rfl) (fun _ => rfl) (fun _ => rfl) (fun _ => rfl) (fun _ => rfl) (fun _ => rfl) (fun _ => rfl) (fun _ => rfl) (fun _ => rfl)) (show a1092_ 0 0 = a1092_ 146 0 from by omega) (show a1092_ 4 6 = a1092_ 146 2 from by omega) (show a1092_ 2 1 = a1092_ 146 22 from by omega) (show a1092_ 105 5 = a1092_ 146 68 from by omega)
theorem lw_op1110 (E : jxE) (d : Nat) (hd : Nat.ble 60 (d + 1) = true) (hL : E.1 ≤ 3072) (y3 : Int) (hy0 : 0 ≤ y3) (hy1 : y3 + 6 ≤ E.1) (hnext : ∀ (a b : Nat → Nat → Int) (hv : iv a) (hg0 : WFW a) (hg1 : SV a) (hg2 : OC a) (hg3 : FO a) (hg4 : FW a) (hg5 : TAPE a) (hg6 : MEMR a) (hg7 : FARR a) (hg8 : WISHR a) (hg9 : CIC a) (hg10 : STR a) (hr0 : a 0 0 = a 146 0) (hr1 : a 4 6 = a 146 2) (hr2 : a 2 1 = a 146 22) (hr3 : a 105 5 = a 146 68), jt (jxX E d 305 1189 [some (.inr (.inr (.inl 3000))), some (.inr (.inr (.inl 0))), some (.inr (.inr (.inl 146))), some (.inl y3)] [] (jxSH, a, b)) (fun v _ _ => v = [.inl 1])) (a b : Nat → Nat → Int) (hv : iv a) (hg0 : WFW a) (hg1 : SV a) (hg2 : OC a) (hg3 : FO a) (hg4 : FW a) (hg5 : TAPE a) (hg6 : MEMR a) (hg7 : FARR a) (hg8 : WISHR a) (hg9 : CIC a) (hg10 : STR a) (hr0 : a 0 0 = a 146 0) (hr1 : a 4 6 = a 146 2) (hr2 : a 2 1 = a 146 22) (hr3 : a 105 5 = a 146 68) : jt (jxX E d 305 1110 [some (.inr (.inr (.inl 3000))), some (.inr (.inr (.inl 0))), some (.inr (.inr (.inl 146))), some (.inl y3)] [] (jxSH, a, b)) (fun v _ _ => v = [.inl 1]) := by
  refine jt_eq (bq_law_1110 E d y3 a b) ?_
  have h1125_ := iv_get hv (k := 0) (j := 0) (l := 0) (u := 1999) rfl
  have h1126_ := iv_get hv (k := 146) (j := 0) (l := 0) (u := 1999) rfl
  have h1127_ := iv_get hv (k := 4) (j := 6) (l := 0) (u := 40) rfl
  have h1128_ := iv_get hv (k := 146) (j := 2) (l := 0) (u := 40) rfl
  have h1129_ := iv_get hv (k := 2) (j := 1) (l := 0) (u := 200) rfl
  have h1130_ := iv_get hv (k := 146) (j := 22) (l := 0) (u := 200) rfl
  have h1131_ := iv_get hv (k := 105) (j := 5) (l := 0) (u := 10) rfl
  have h1132_ := iv_get hv (k := 146) (j := 68) (l := 0) (u := 10) rfl
  have hBAS : BAS a := ⟨hv, hr0, hr1, hg6, hg7, hg8⟩
  have hring := AL_ring (b := b) (b2 := b) hBAS hg10 ((E.2 ((jxw (y3 + 1)).toNat))) ((E.2 ((jxw (y3 + 2)).toNat)))
  refine jt_bif (Nat.ble_eq_true_of_le (by omega)) ?_
  have h1133_ : jxw (y3 + 1) = y3 + 1 := jxw_id (by omega) (by omega)
  refine jt_grd (by omega) ?_
  refine jt_bif (Nat.ble_eq_true_of_le (by omega)) ?_
  have h1134_ : jxw (y3 + 2) = y3 + 2 := jxw_id (by omega) (by omega)
  refine jt_grd (by omega) ?_
  refine jt_bI (sp_X11_pay E d (jd_le hd rfl) (E.2 ((jxw (y3 + 1)).toNat)) (E.2 ((jxw (y3 + 2)).toNat)) a b hv) (fun r1135_ a1135_ b1135_ h1135_ => ?_)
  obtain ⟨hv1135_, hf1135_, hq1135_0⟩ := h1135_
  have h1136_ := iv_get hv (k := 58) (j := 8) (l := 0) (u := 300) rfl
  refine jt_eq (bq_law_1125 E d y3 a1135_ b1135_) ?_
  refine jt_bif (Nat.ble_eq_true_of_le (by omega)) ?_
  refine jt_grd (by omega) ?_
  refine jt_bif (Nat.ble_eq_true_of_le (by omega)) ?_
  refine jt_grd (by omega) ?_
  refine jt_bI (sp_X12_pay E d (jd_le hd rfl) (E.2 ((jxw (y3 + 1)).toNat)) (E.2 ((jxw (y3 + 2)).toNat)) a1135_ b1135_ hv1135_ (SV_fr hg1 hf1135_ (fun _ => rfl) (fun _ => rfl))) (fun r1137_ a1137_ b1137_ h1137_ => ?_)
  obtain ⟨hv1137_, hf1137_, rfl, hq1137_0, hq1137_1⟩ := h1137_
  have h1138_ := iv_get hv1135_ (k := 146) (j := 9) (l := 0) (u := 300) rfl
  have h1139_ : a1135_ 146 9 = a 146 9 := hf1135_ 146 9 rfl
  have h1140_ := iv_get hv (k := 146) (j := 9) (l := 0) (u := 300) rfl
  have h1141_ := iv_get hv1137_ (k := 0) (j := 0) (l := 0) (u := 1999) rfl
  have h1142_ : a1137_ 0 0 = a1135_ 0 0 := hf1137_ 0 0 rfl
  have h1143_ := iv_get hv1135_ (k := 0) (j := 0) (l := 0) (u := 1999) rfl
  have h1144_ : a1135_ 0 0 = a 0 0 := hf1135_ 0 0 rfl
  have h1145_ := iv_get hv1137_ (k := 146) (j := 0) (l := 0) (u := 1999) rfl
  have h1146_ : a1137_ 146 0 = a1135_ 146 0 := hf1137_ 146 0 rfl
  have h1147_ := iv_get hv1135_ (k := 146) (j := 0) (l := 0) (u := 1999) rfl
  have h1148_ : a1135_ 146 0 = a 146 0 := hf1135_ 146 0 rfl
  have h1149_ := iv_get hv1137_ (k := 4) (j := 6) (l := 0) (u := 40) rfl
  have h1150_ : a1137_ 4 6 = a1135_ 4 6 := hf1137_ 4 6 rfl
  have h1151_ := iv_get hv1135_ (k := 4) (j := 6) (l := 0) (u := 40) rfl
  have h1152_ : a1135_ 4 6 = a 4 6 := hf1135_ 4 6 rfl
  have h1153_ := iv_get hv1137_ (k := 146) (j := 2) (l := 0) (u := 40) rfl
  have h1154_ : a1137_ 146 2 = a1135_ 146 2 := hf1137_ 146 2 rfl
  have h1155_ := iv_get hv1135_ (k := 146) (j := 2) (l := 0) (u := 40) rfl
  have h1156_ : a1135_ 146 2 = a 146 2 := hf1135_ 146 2 rfl
  have h1157_ := iv_get hv1137_ (k := 2) (j := 1) (l := 0) (u := 200) rfl
  have h1158_ : a1137_ 2 1 = a1135_ 2 1 := hf1137_ 2 1 rfl
  have h1159_ := iv_get hv1135_ (k := 2) (j := 1) (l := 0) (u := 200) rfl
  have h1160_ : a1135_ 2 1 = a 2 1 := hf1135_ 2 1 rfl
  have h1161_ := iv_get hv1137_ (k := 146) (j := 22) (l := 0) (u := 200) rfl
  have h1162_ : a1137_ 146 22 = a1135_ 146 22 := hf1137_ 146 22 rfl
  have h1163_ := iv_get hv1135_ (k := 146) (j := 22) (l := 0) (u := 200) rfl
  have h1164_ : a1135_ 146 22 = a 146 22 := hf1135_ 146 22 rfl
  have h1165_ := iv_get hv1137_ (k := 105) (j := 5) (l := 0) (u := 10) rfl
  have h1166_ : a1137_ 105 5 = a1135_ 105 5 := hf1137_ 105 5 rfl
  have h1167_ := iv_get hv1135_ (k := 105) (j := 5) (l := 0) (u := 10) rfl
  have h1168_ : a1135_ 105 5 = a 105 5 := hf1135_ 105 5 rfl
  have h1169_ := iv_get hv1137_ (k := 146) (j := 68) (l := 0) (u := 10) rfl
  have h1170_ : a1137_ 146 68 = a1135_ 146 68 := hf1137_ 146 68 rfl
  have h1171_ := iv_get hv1135_ (k := 146) (j := 68) (l := 0) (u := 10) rfl
  have h1172_ : a1135_ 146 68 = a 146 68 := hf1135_ 146 68 rfl
  exact hnext a1137_ b1135_ hv1137_ (WFW_fr (WFW_fr hg0 hf1135_ (fun _ => rfl) (fun _ => rfl)) hf1137_ (fun _ => rfl) (fun _ => rfl)) hq1137_0 (OC_fr (OC_fr hg2 hf1135_ rfl rfl (fun _ => rfl) (fun _ => rfl) (fun _ => rfl) (fun _ => rfl) (fun _ => rfl)) hf1137_ rfl rfl (fun _ => rfl) (fun _ => rfl) (fun _ => rfl) (fun _ => rfl) (fun _ => rfl)) (FO_fr (FO_fr hg3 hf1135_ rfl rfl (fun _ => rfl)) hf1137_ rfl rfl (fun _ => rfl)) (FW_fr (FW_fr hg4 hf1135_ rfl (fun _ => rfl)) hf1137_ rfl (fun _ => rfl)) (TAPE_fr (TAPE_fr hg5 hf1135_ (fun _ => rfl) (fun _ => rfl)) hf1137_ (fun _ => rfl) (fun _ => rfl)) (MEMR_fr (MEMR_fr hg6 hf1135_ (fun _ => rfl) (fun _ => rfl) (fun _ => rfl) (fun _ => rfl) (fun _ => rfl) (fun _ => rfl) (fun _ => rfl) (fun _ => rfl) (fun _ => rfl) (fun _ => rfl)) hf1137_ (fun _ => rfl) (fun _ => rfl) (fun _ => rfl) (fun _ => rfl) (fun _ => rfl) (fun _ => rfl) (fun _ => rfl) (fun _ => rfl) (fun _ => rfl) (fun _ => rfl)) (FARR_fr (FARR_fr hg7 hf1135_ (fun _ => rfl) (fun _ => rfl)) hf1137_ (fun _ => rfl) (fun _ => rfl)) (WISHR_fr (WISHR_fr hg8 hf1135_ (fun _ => rfl) (fun _ => rfl) (fun _ => rfl) (fun _ => rfl)) hf1137_ (fun _ => rfl) (fun _ => rfl) (fun _ => rfl) (fun _ => rfl)) (CIC_fr (CIC_fr hg9 hf1135_ rfl rfl rfl rfl (fun _ => rfl) (fun _ => rfl) (fun _ => rfl) (fun _ => rfl) (fun _ => rfl) (fun _ => rfl) (fun _ => rfl) (fun _ => rfl) (fun _ => rfl) (fun _ => rfl)) hf1137_ rfl rfl rfl rfl (fun _ => rfl) (fun _ => rfl) (fun _ => rfl) (fun _ => rfl) (fun _ => rfl) (fun _ => rfl) (fun _ => rfl) (fun _ => rfl) (fun _ => rfl) (fun _ => rfl)) (STR_fr (STR_fr hg10 hf1135_ rfl rfl rfl (fun _ => rfl) (fun _ => rfl) rfl rfl (fun _ => rfl) (fun _ => rfl) (fun _ => rfl) (fun _ => rfl) (fun _ => rfl) (fun _ => rfl) (fun _ => rfl) (fun _ => rfl) (fun _ => rfl) (fun _ => rfl) (fun _ => rfl) rfl rfl (fun _ => rfl) (fun _ => rfl) (fun _ => rfl) (fun _ => rfl) (fun _ => rfl) (fun _ => rfl) rfl (fun _ => rfl) (fun _ => rfl) rfl rfl rfl rfl rfl rfl (fun _ => rfl) (fun _ => rfl) (fun _ => rfl) (fun _ => rfl) (fun _ => rfl) (fun _ => rfl) (fun _ => rfl) (fun _ => rfl) (fun _ => rfl) (fun _ => rfl) (fun _ => rfl) (fun _ => rfl) (fun _ => rfl) (fun _ => rfl) (fun _ => rfl) (fun _ => rfl) (fun _ => rfl) (fun _ => rfl) (fun _ => rfl) (fun _ => rfl)) hf1137_ rfl rfl rfl (fun _ => rfl) (fun _ => rfl) rfl rfl (fun _ => rfl) (fun _ => rfl) (fun _ => rfl) (fun _ => rfl) (fun _ => rfl) (fun _ => rfl) (fun _ => rfl) (fun _ => rfl) (fun _ => rfl) (fun _ => rfl) (fun _ => rfl) rfl rfl (fun _ => rfl) (fun _ => rfl) (fun _ => rfl) (fun _ => rfl) (fun _ => rfl) (fun _ => rfl) rfl (fun _ => rfl) (fun _ => rfl) rfl rfl rfl rfl rfl rfl (fun _ => rfl) (fun _ => rfl) (fun _ => rfl) (fun _ => rfl) (fun _ => rfl) (fun _ => rfl) (fun _ => rfl) (fun _ => rfl) (fun _ => rfl) (fun _ => rfl) (fun _ => rfl) (fun _ => rfl) (fun _ => rfl) (fun _ => rfl) (fun _ => rfl) (fun _ => rfl) (fun _ => rfl) (fun _ => rfl) (fun _ => rfl) (fun _ => rfl)) (show a1137_ 0 0 = a1137_ 146 0 from by omega) (show a1137_ 4 6 = a1137_ 146 2 from by omega) (show a1137_ 2 1 = a1137_ 146 22 from by omega) (show a1137_ 105 5 = a1137_ 146 68 from by omega)
theorem lw_op1143 (E : jxE) (d : Nat) (hd : Nat.ble 60 (d + 1) = true) (hL : E.1 ≤ 3072) (y3 : Int) (hy0 : 0 ≤ y3) (hy1 : y3 + 6 ≤ E.1) (hnext : ∀ (a b : Nat → Nat → Int) (hv : iv a) (hg0 : WFW a) (hg1 : SV a) (hg2 : OC a) (hg3 : FO a) (hg4 : FW a) (hg5 : TAPE a) (hg6 : MEMR a) (hg7 : FARR a) (hg8 : WISHR a) (hg9 : CIC a) (hg10 : STR a) (hr0 : a 0 0 = a 146 0) (hr1 : a 4 6 = a 146 2) (hr2 : a 2 1 = a 146 22) (hr3 : a 105 5 = a 146 68), jt (jxX E d 305 1189 [some (.inr (.inr (.inl 3000))), some (.inr (.inr (.inl 0))), some (.inr (.inr (.inl 146))), some (.inl y3)] [] (jxSH, a, b)) (fun v _ _ => v = [.inl 1])) (a b : Nat → Nat → Int) (hv : iv a) (hg0 : WFW a) (hg1 : SV a) (hg2 : OC a) (hg3 : FO a) (hg4 : FW a) (hg5 : TAPE a) (hg6 : MEMR a) (hg7 : FARR a) (hg8 : WISHR a) (hg9 : CIC a) (hg10 : STR a) (hr0 : a 0 0 = a 146 0) (hr1 : a 4 6 = a 146 2) (hr2 : a 2 1 = a 146 22) (hr3 : a 105 5 = a 146 68) : jt (jxX E d 305 1143 [some (.inr (.inr (.inl 3000))), some (.inr (.inr (.inl 0))), some (.inr (.inr (.inl 146))), some (.inl y3)] [] (jxSH, a, b)) (fun v _ _ => v = [.inl 1]) := by
  refine jt_eq (bq_law_1143 E d y3 a b) ?_
  have h1173_ := iv_get hv (k := 0) (j := 0) (l := 0) (u := 1999) rfl
  have h1174_ := iv_get hv (k := 146) (j := 0) (l := 0) (u := 1999) rfl
  have h1175_ := iv_get hv (k := 4) (j := 6) (l := 0) (u := 40) rfl
  have h1176_ := iv_get hv (k := 146) (j := 2) (l := 0) (u := 40) rfl
  have h1177_ := iv_get hv (k := 2) (j := 1) (l := 0) (u := 200) rfl
  have h1178_ := iv_get hv (k := 146) (j := 22) (l := 0) (u := 200) rfl
  have h1179_ := iv_get hv (k := 105) (j := 5) (l := 0) (u := 10) rfl
  have h1180_ := iv_get hv (k := 146) (j := 68) (l := 0) (u := 10) rfl
  have hBAS : BAS a := ⟨hv, hr0, hr1, hg6, hg7, hg8⟩
  have hring := AL_ring (b := b) (b2 := b) hBAS hg10 ((E.2 ((jxw (y3 + 1)).toNat))) ((E.2 ((jxw (y3 + 2)).toNat)))
  refine jt_bif (Nat.ble_eq_true_of_le (by omega)) ?_
  have h1181_ : jxw (y3 + 1) = y3 + 1 := jxw_id (by omega) (by omega)
  refine jt_grd (by omega) ?_
  refine jt_eI (eq_X11_paid E d (jd_le hd rfl) (E.2 ((jxw (y3 + 1)).toNat)) a b) ?_
  refine jt_eq (bq_law_1153 E d y3 a b) ?_
  refine jt_bif (Nat.ble_eq_true_of_le (by omega)) ?_
  refine jt_grd (by omega) ?_
  refine jt_eI (eq_X12_paid E d (jd_le hd rfl) (E.2 ((jxw (y3 + 1)).toNat)) a b) ?_
  exact hnext a b hv hg0 hg1 hg2 hg3 hg4 hg5 hg6 hg7 hg8 hg9 hg10 (show a 0 0 = a 146 0 from by omega) (show a 4 6 = a 146 2 from by omega) (show a 2 1 = a 146 22 from by omega) (show a 105 5 = a 146 68 from by omega)
theorem lw_op1166 (E : jxE) (d : Nat) (hd : Nat.ble 60 (d + 1) = true) (hL : E.1 ≤ 3072) (y3 : Int) (hy0 : 0 ≤ y3) (hy1 : y3 + 6 ≤ E.1) (hnext : ∀ (a b : Nat → Nat → Int) (hv : iv a) (hg0 : WFW a) (hg1 : SV a) (hg2 : OC a) (hg3 : FO a) (hg4 : FW a) (hg5 : TAPE a) (hg6 : MEMR a) (hg7 : FARR a) (hg8 : WISHR a) (hg9 : CIC a) (hg10 : STR a) (hr0 : a 0 0 = a 146 0) (hr1 : a 4 6 = a 146 2) (hr2 : a 2 1 = a 146 22) (hr3 : a 105 5 = a 146 68), jt (jxX E d 305 1189 [some (.inr (.inr (.inl 3000))), some (.inr (.inr (.inl 0))), some (.inr (.inr (.inl 146))), some (.inl y3)] [] (jxSH, a, b)) (fun v _ _ => v = [.inl 1])) (a b : Nat → Nat → Int) (hv : iv a) (hg0 : WFW a) (hg1 : SV a) (hg2 : OC a) (hg3 : FO a) (hg4 : FW a) (hg5 : TAPE a) (hg6 : MEMR a) (hg7 : FARR a) (hg8 : WISHR a) (hg9 : CIC a) (hg10 : STR a) (hr0 : a 0 0 = a 146 0) (hr1 : a 4 6 = a 146 2) (hr2 : a 2 1 = a 146 22) (hr3 : a 105 5 = a 146 68) : jt (jxX E d 305 1166 [some (.inr (.inr (.inl 3000))), some (.inr (.inr (.inl 0))), some (.inr (.inr (.inl 146))), some (.inl y3)] [] (jxSH, a, b)) (fun v _ _ => v = [.inl 1]) := by
  refine jt_eq (bq_law_1166 E d y3 a b) ?_
  have h1182_ := iv_get hv (k := 0) (j := 0) (l := 0) (u := 1999) rfl
  have h1183_ := iv_get hv (k := 146) (j := 0) (l := 0) (u := 1999) rfl
  have h1184_ := iv_get hv (k := 4) (j := 6) (l := 0) (u := 40) rfl
  have h1185_ := iv_get hv (k := 146) (j := 2) (l := 0) (u := 40) rfl
  have h1186_ := iv_get hv (k := 2) (j := 1) (l := 0) (u := 200) rfl
  have h1187_ := iv_get hv (k := 146) (j := 22) (l := 0) (u := 200) rfl
  have h1188_ := iv_get hv (k := 105) (j := 5) (l := 0) (u := 10) rfl
  have h1189_ := iv_get hv (k := 146) (j := 68) (l := 0) (u := 10) rfl
  have hBAS : BAS a := ⟨hv, hr0, hr1, hg6, hg7, hg8⟩
  have hring := AL_ring (b := b) (b2 := b) hBAS hg10 ((E.2 ((jxw (y3 + 1)).toNat))) ((E.2 ((jxw (y3 + 2)).toNat)))
  refine jt_bif (Nat.ble_eq_true_of_le (by omega)) ?_
  have h1190_ : jxw (y3 + 1) = y3 + 1 := jxw_id (by omega) (by omega)
  refine jt_grd (by omega) ?_
  refine jt_bI (sp_X11_count E d (jd_le hd rfl) (E.2 ((jxw (y3 + 1)).toNat)) a b hv) (fun r1191_ a1191_ b1191_ h1191_ => ?_)
  obtain ⟨rfl, rfl, hq1191_0, hq1191_1, hq1191_2, hq1191_3, hq1191_4, hq1191_5, hq1191_6, hq1191_7, hq1191_8, hq1191_9, hq1191_10, hq1191_11, hq1191_12, hq1191_13, hq1191_14, hq1191_15, hq1191_16, hq1191_17⟩ := h1191_
  have h1192_ := iv_get hv (k := 58) (j := 8) (l := 0) (u := 300) rfl
  have h1193_ := iv_get hv (k := 58) (j := 12) (l := 0) (u := 600) rfl
  have h1194_ := iv_get hv (k := 83) (j := 6) (l := 0) (u := 20) rfl
  have h1195_ := iv_get hv (k := 0) (j := 9) (l := 0) (u := 8) rfl
  refine jt_eq (bq_law_1176 E d y3 a b) ?_
  refine jt_bif (Nat.ble_eq_true_of_le (by omega)) ?_
  refine jt_grd (by omega) ?_
  refine jt_bI (sp_X12_count E d (jd_le hd rfl) (E.2 ((jxw (y3 + 1)).toNat)) a b hv) (fun r1196_ a1196_ b1196_ h1196_ => ?_)
  obtain ⟨rfl, rfl, hq1196_0, hq1196_1, hq1196_2, hq1196_3, hq1196_4, hq1196_5, hq1196_6, hq1196_7, hq1196_8, hq1196_9, hq1196_10, hq1196_11, hq1196_12, hq1196_13⟩ := h1196_
  have h1197_ := iv_get hv (k := 146) (j := 9) (l := 0) (u := 300) rfl
  have h1198_ := iv_get hv (k := 146) (j := 17) (l := 0) (u := 600) rfl
  have h1199_ := iv_get hv (k := 146) (j := 49) (l := 0) (u := 20) rfl
  have h1200_ := iv_get hv (k := 146) (j := 42) (l := 0) (u := 8) rfl
  exact hnext a b hv hg0 hg1 hg2 hg3 hg4 hg5 hg6 hg7 hg8 hg9 hg10 (show a 0 0 = a 146 0 from by omega) (show a 4 6 = a 146 2 from by omega) (show a 2 1 = a 146 22 from by omega) (show a 105 5 = a 146 68 from by omega)
theorem lw_18 (E : jxE) (d : Nat) (hd : Nat.ble 60 (d + 1) = true) (hL : E.1 ≤ 3072) : ∀ n : Nat, ∀ (y3 : Int) (a b : Nat → Nat → Int), ((E.1 : Int) - y3).toNat ≤ n → 0 ≤ y3 → y3 ≤ 3078 → iv a → WFW a → SV a → OC a → FO a → FW a → TAPE a → MEMR a → FARR a → WISHR a → CIC a → STR a → a 0 0 = a 146 0 → a 4 6 = a 146 2 → a 2 1 = a 146 22 → a 105 5 = a 146 68 → jt (jxX E d 305 18 [some (.inr (.inr (.inl 3000))), some (.inr (.inr (.inl 0))), some (.inr (.inr (.inl 146))), some (.inl y3)] [] (jxSH, a, b)) (fun v _ _ => v = [.inl 1]) := by
  refine jx_ind fun n ih => ?_
  intro y3 a b hm hy0 hy9 hv hg0 hg1 hg2 hg3 hg4 hg5 hg6 hg7 hg8 hg9 hg10 hr0 hr1 hr2 hr3
  refine jt_eq (bq_law_18 E d y3 a b) ?_
  have hnext0 : y3 + 6 ≤ E.1 → ∀ (a b : Nat → Nat → Int) (hv : iv a) (hg0 : WFW a) (hg1 : SV a) (hg2 : OC a) (hg3 : FO a) (hg4 : FW a) (hg5 : TAPE a) (hg6 : MEMR a) (hg7 : FARR a) (hg8 : WISHR a) (hg9 : CIC a) (hg10 : STR a) (hr0 : a 0 0 = a 146 0) (hr1 : a 4 6 = a 146 2) (hr2 : a 2 1 = a 146 22) (hr3 : a 105 5 = a 146 68), jt (jxX E d 305 1189 [some (.inr (.inr (.inl 3000))), some (.inr (.inr (.inl 0))), some (.inr (.inr (.inl 146))), some (.inl y3)] [] (jxSH, a, b)) (fun v _ _ => v = [.inl 1]) := fun hlt a b hv hg0 hg1 hg2 hg3 hg4 hg5 hg6 hg7 hg8 hg9 hg10 hr0 hr1 hr2 hr3 => by
    refine jt_eq (bq_law_1189 E d y3 a b) ?_
    have e : jxw (y3 + 6) = y3 + 6 := jxw_id (by omega) (by omega)
    rw [e]
    exact ih ((E.1 : Int) - (y3 + 6)).toNat (by omega) (y3 + 6) a b (Nat.le_refl _) (by omega) (by omega) hv hg0 hg1 hg2 hg3 hg4 hg5 hg6 hg7 hg8 hg9 hg10 hr0 hr1 hr2 hr3
  refine jt_bif (Nat.ble_eq_true_of_le (by omega)) ?_
  have e6 : jxw ((E.1 : Int) - 6) = (E.1 : Int) - 6 := jxw_id (by omega) (by omega)
  refine jt_ite (fun c1 => ?_) (fun c1 => ?_)
  · exact ⟨_, _, _, rfl, rfl⟩
  ·
    have hy1 : y3 + 6 ≤ E.1 := by omega
    have hnext := hnext0 hy1
    refine jt_bif (Nat.ble_eq_true_of_le (by omega)) ?_
    refine jt_grd (by omega) ?_
    have h1201_ := jxand_r (E.2 (y3.toNat)) 63 (by decide) (by decide)
    refine jt_ite (fun c1202_ => ?_) (fun c1202_ => ?_)
    ·
      have h1203_ := iv_get hv (k := 0) (j := 0) (l := 0) (u := 1999) rfl
      have h1204_ := iv_get hv (k := 146) (j := 0) (l := 0) (u := 1999) rfl
      have h1205_ := iv_get hv (k := 4) (j := 6) (l := 0) (u := 40) rfl
      have h1206_ := iv_get hv (k := 146) (j := 2) (l := 0) (u := 40) rfl
      have h1207_ := iv_get hv (k := 2) (j := 1) (l := 0) (u := 200) rfl
      have h1208_ := iv_get hv (k := 146) (j := 22) (l := 0) (u := 200) rfl
      have h1209_ := iv_get hv (k := 105) (j := 5) (l := 0) (u := 10) rfl
      have h1210_ := iv_get hv (k := 146) (j := 68) (l := 0) (u := 10) rfl
      exact hnext a b hv hg0 hg1 hg2 hg3 hg4 hg5 hg6 hg7 hg8 hg9 hg10 (show a 0 0 = a 146 0 from by omega) (show a 4 6 = a 146 2 from by omega) (show a 2 1 = a 146 22 from by omega) (show a 105 5 = a 146 68 from by omega)
    ·
      refine jt_ite (fun c1211_ => ?_) (fun c1211_ => ?_)
      ·
        have h1212_ := iv_get hv (k := 0) (j := 0) (l := 0) (u := 1999) rfl
        have h1213_ := iv_get hv (k := 146) (j := 0) (l := 0) (u := 1999) rfl
        have h1214_ := iv_get hv (k := 4) (j := 6) (l := 0) (u := 40) rfl
        have h1215_ := iv_get hv (k := 146) (j := 2) (l := 0) (u := 40) rfl
        have h1216_ := iv_get hv (k := 2) (j := 1) (l := 0) (u := 200) rfl
        have h1217_ := iv_get hv (k := 146) (j := 22) (l := 0) (u := 200) rfl
        have h1218_ := iv_get hv (k := 105) (j := 5) (l := 0) (u := 10) rfl
        have h1219_ := iv_get hv (k := 146) (j := 68) (l := 0) (u := 10) rfl
        exact lw_op180 E d hd hL y3 hy0 (by omega) hnext a b hv hg0 hg1 hg2 hg3 hg4 hg5 hg6 hg7 hg8 hg9 hg10 (show a 0 0 = a 146 0 from by omega) (show a 4 6 = a 146 2 from by omega) (show a 2 1 = a 146 22 from by omega) (show a 105 5 = a 146 68 from by omega)
      ·
        refine jt_ite (fun c1220_ => ?_) (fun c1220_ => ?_)
        ·
          have h1221_ := iv_get hv (k := 0) (j := 0) (l := 0) (u := 1999) rfl
          have h1222_ := iv_get hv (k := 146) (j := 0) (l := 0) (u := 1999) rfl
          have h1223_ := iv_get hv (k := 4) (j := 6) (l := 0) (u := 40) rfl
          have h1224_ := iv_get hv (k := 146) (j := 2) (l := 0) (u := 40) rfl
          have h1225_ := iv_get hv (k := 2) (j := 1) (l := 0) (u := 200) rfl
          have h1226_ := iv_get hv (k := 146) (j := 22) (l := 0) (u := 200) rfl
          have h1227_ := iv_get hv (k := 105) (j := 5) (l := 0) (u := 10) rfl
          have h1228_ := iv_get hv (k := 146) (j := 68) (l := 0) (u := 10) rfl
          exact lw_op203 E d hd hL y3 hy0 (by omega) hnext a b hv hg0 hg1 hg2 hg3 hg4 hg5 hg6 hg7 hg8 hg9 hg10 (show a 0 0 = a 146 0 from by omega) (show a 4 6 = a 146 2 from by omega) (show a 2 1 = a 146 22 from by omega) (show a 105 5 = a 146 68 from by omega)
        ·
          refine jt_ite (fun c1229_ => ?_) (fun c1229_ => ?_)
          ·
            have h1230_ := iv_get hv (k := 0) (j := 0) (l := 0) (u := 1999) rfl
            have h1231_ := iv_get hv (k := 146) (j := 0) (l := 0) (u := 1999) rfl
            have h1232_ := iv_get hv (k := 4) (j := 6) (l := 0) (u := 40) rfl
            have h1233_ := iv_get hv (k := 146) (j := 2) (l := 0) (u := 40) rfl
            have h1234_ := iv_get hv (k := 2) (j := 1) (l := 0) (u := 200) rfl
            have h1235_ := iv_get hv (k := 146) (j := 22) (l := 0) (u := 200) rfl
            have h1236_ := iv_get hv (k := 105) (j := 5) (l := 0) (u := 10) rfl
            have h1237_ := iv_get hv (k := 146) (j := 68) (l := 0) (u := 10) rfl
            exact lw_op246 E d hd hL y3 hy0 (by omega) hnext a b hv hg0 hg1 hg2 hg3 hg4 hg5 hg6 hg7 hg8 hg9 hg10 (show a 0 0 = a 146 0 from by omega) (show a 4 6 = a 146 2 from by omega) (show a 2 1 = a 146 22 from by omega) (show a 105 5 = a 146 68 from by omega)
          ·
            refine jt_ite (fun c1238_ => ?_) (fun c1238_ => ?_)
            ·
              have h1239_ := iv_get hv (k := 0) (j := 0) (l := 0) (u := 1999) rfl
              have h1240_ := iv_get hv (k := 146) (j := 0) (l := 0) (u := 1999) rfl
              have h1241_ := iv_get hv (k := 4) (j := 6) (l := 0) (u := 40) rfl
              have h1242_ := iv_get hv (k := 146) (j := 2) (l := 0) (u := 40) rfl
              have h1243_ := iv_get hv (k := 2) (j := 1) (l := 0) (u := 200) rfl
              have h1244_ := iv_get hv (k := 146) (j := 22) (l := 0) (u := 200) rfl
              have h1245_ := iv_get hv (k := 105) (j := 5) (l := 0) (u := 10) rfl
              have h1246_ := iv_get hv (k := 146) (j := 68) (l := 0) (u := 10) rfl
              exact lw_op289 E d hd hL y3 hy0 (by omega) hnext a b hv hg0 hg1 hg2 hg3 hg4 hg5 hg6 hg7 hg8 hg9 hg10 (show a 0 0 = a 146 0 from by omega) (show a 4 6 = a 146 2 from by omega) (show a 2 1 = a 146 22 from by omega) (show a 105 5 = a 146 68 from by omega)
            ·
              refine jt_ite (fun c1247_ => ?_) (fun c1247_ => ?_)
              ·
                have h1248_ := iv_get hv (k := 0) (j := 0) (l := 0) (u := 1999) rfl
                have h1249_ := iv_get hv (k := 146) (j := 0) (l := 0) (u := 1999) rfl
                have h1250_ := iv_get hv (k := 4) (j := 6) (l := 0) (u := 40) rfl
                have h1251_ := iv_get hv (k := 146) (j := 2) (l := 0) (u := 40) rfl
                have h1252_ := iv_get hv (k := 2) (j := 1) (l := 0) (u := 200) rfl
                have h1253_ := iv_get hv (k := 146) (j := 22) (l := 0) (u := 200) rfl
                have h1254_ := iv_get hv (k := 105) (j := 5) (l := 0) (u := 10) rfl
                have h1255_ := iv_get hv (k := 146) (j := 68) (l := 0) (u := 10) rfl
                exact lw_op312 E d hd hL y3 hy0 (by omega) hnext a b hv hg0 hg1 hg2 hg3 hg4 hg5 hg6 hg7 hg8 hg9 hg10 (show a 0 0 = a 146 0 from by omega) (show a 4 6 = a 146 2 from by omega) (show a 2 1 = a 146 22 from by omega) (show a 105 5 = a 146 68 from by omega)
              ·
                refine jt_ite (fun c1256_ => ?_) (fun c1256_ => ?_)
                ·
                  have h1257_ := iv_get hv (k := 0) (j := 0) (l := 0) (u := 1999) rfl
                  have h1258_ := iv_get hv (k := 146) (j := 0) (l := 0) (u := 1999) rfl
                  have h1259_ := iv_get hv (k := 4) (j := 6) (l := 0) (u := 40) rfl
                  have h1260_ := iv_get hv (k := 146) (j := 2) (l := 0) (u := 40) rfl
                  have h1261_ := iv_get hv (k := 2) (j := 1) (l := 0) (u := 200) rfl
                  have h1262_ := iv_get hv (k := 146) (j := 22) (l := 0) (u := 200) rfl
                  have h1263_ := iv_get hv (k := 105) (j := 5) (l := 0) (u := 10) rfl
                  have h1264_ := iv_get hv (k := 146) (j := 68) (l := 0) (u := 10) rfl
                  exact lw_op375 E d hd hL y3 hy0 (by omega) hnext a b hv hg0 hg1 hg2 hg3 hg4 hg5 hg6 hg7 hg8 hg9 hg10 (show a 0 0 = a 146 0 from by omega) (show a 4 6 = a 146 2 from by omega) (show a 2 1 = a 146 22 from by omega) (show a 105 5 = a 146 68 from by omega)
                ·
                  refine jt_ite (fun c1265_ => ?_) (fun c1265_ => ?_)
                  ·
                    have h1266_ := iv_get hv (k := 0) (j := 0) (l := 0) (u := 1999) rfl
                    have h1267_ := iv_get hv (k := 146) (j := 0) (l := 0) (u := 1999) rfl
                    have h1268_ := iv_get hv (k := 4) (j := 6) (l := 0) (u := 40) rfl
                    have h1269_ := iv_get hv (k := 146) (j := 2) (l := 0) (u := 40) rfl
                    have h1270_ := iv_get hv (k := 2) (j := 1) (l := 0) (u := 200) rfl
                    have h1271_ := iv_get hv (k := 146) (j := 22) (l := 0) (u := 200) rfl
                    have h1272_ := iv_get hv (k := 105) (j := 5) (l := 0) (u := 10) rfl
                    have h1273_ := iv_get hv (k := 146) (j := 68) (l := 0) (u := 10) rfl
                    exact lw_op398 E d hd hL y3 hy0 (by omega) hnext a b hv hg0 hg1 hg2 hg3 hg4 hg5 hg6 hg7 hg8 hg9 hg10 (show a 0 0 = a 146 0 from by omega) (show a 4 6 = a 146 2 from by omega) (show a 2 1 = a 146 22 from by omega) (show a 105 5 = a 146 68 from by omega)
                  ·
                    refine jt_ite (fun c1274_ => ?_) (fun c1274_ => ?_)
                    ·
                      have h1275_ := iv_get hv (k := 0) (j := 0) (l := 0) (u := 1999) rfl
                      have h1276_ := iv_get hv (k := 146) (j := 0) (l := 0) (u := 1999) rfl
                      have h1277_ := iv_get hv (k := 4) (j := 6) (l := 0) (u := 40) rfl
                      have h1278_ := iv_get hv (k := 146) (j := 2) (l := 0) (u := 40) rfl
                      have h1279_ := iv_get hv (k := 2) (j := 1) (l := 0) (u := 200) rfl
                      have h1280_ := iv_get hv (k := 146) (j := 22) (l := 0) (u := 200) rfl
                      have h1281_ := iv_get hv (k := 105) (j := 5) (l := 0) (u := 10) rfl
                      have h1282_ := iv_get hv (k := 146) (j := 68) (l := 0) (u := 10) rfl
                      exact lw_op421 E d hd hL y3 hy0 (by omega) hnext a b hv hg0 hg1 hg2 hg3 hg4 hg5 hg6 hg7 hg8 hg9 hg10 (show a 0 0 = a 146 0 from by omega) (show a 4 6 = a 146 2 from by omega) (show a 2 1 = a 146 22 from by omega) (show a 105 5 = a 146 68 from by omega)
                    ·
                      refine jt_ite (fun c1283_ => ?_) (fun c1283_ => ?_)
                      ·
                        have h1284_ := iv_get hv (k := 0) (j := 0) (l := 0) (u := 1999) rfl
                        have h1285_ := iv_get hv (k := 146) (j := 0) (l := 0) (u := 1999) rfl
                        have h1286_ := iv_get hv (k := 4) (j := 6) (l := 0) (u := 40) rfl
                        have h1287_ := iv_get hv (k := 146) (j := 2) (l := 0) (u := 40) rfl
                        have h1288_ := iv_get hv (k := 2) (j := 1) (l := 0) (u := 200) rfl
                        have h1289_ := iv_get hv (k := 146) (j := 22) (l := 0) (u := 200) rfl
                        have h1290_ := iv_get hv (k := 105) (j := 5) (l := 0) (u := 10) rfl
                        have h1291_ := iv_get hv (k := 146) (j := 68) (l := 0) (u := 10) rfl
                        exact lw_op454 E d hd hL y3 hy0 (by omega) hnext a b hv hg0 hg1 hg2 hg3 hg4 hg5 hg6 hg7 hg8 hg9 hg10 (show a 0 0 = a 146 0 from by omega) (show a 4 6 = a 146 2 from by omega) (show a 2 1 = a 146 22 from by omega) (show a 105 5 = a 146 68 from by omega)
                      ·
                        refine jt_ite (fun c1292_ => ?_) (fun c1292_ => ?_)
                        ·
                          have h1293_ := iv_get hv (k := 0) (j := 0) (l := 0) (u := 1999) rfl
                          have h1294_ := iv_get hv (k := 146) (j := 0) (l := 0) (u := 1999) rfl
                          have h1295_ := iv_get hv (k := 4) (j := 6) (l := 0) (u := 40) rfl
                          have h1296_ := iv_get hv (k := 146) (j := 2) (l := 0) (u := 40) rfl
                          have h1297_ := iv_get hv (k := 2) (j := 1) (l := 0) (u := 200) rfl
                          have h1298_ := iv_get hv (k := 146) (j := 22) (l := 0) (u := 200) rfl
                          have h1299_ := iv_get hv (k := 105) (j := 5) (l := 0) (u := 10) rfl
                          have h1300_ := iv_get hv (k := 146) (j := 68) (l := 0) (u := 10) rfl
                          exact lw_op467 E d hd hL y3 hy0 (by omega) hnext a b hv hg0 hg1 hg2 hg3 hg4 hg5 hg6 hg7 hg8 hg9 hg10 (show a 0 0 = a 146 0 from by omega) (show a 4 6 = a 146 2 from by omega) (show a 2 1 = a 146 22 from by omega) (show a 105 5 = a 146 68 from by omega)
                        ·
                          refine jt_ite (fun c1301_ => ?_) (fun c1301_ => ?_)
                          ·
                            have h1302_ := iv_get hv (k := 0) (j := 0) (l := 0) (u := 1999) rfl
                            have h1303_ := iv_get hv (k := 146) (j := 0) (l := 0) (u := 1999) rfl
                            have h1304_ := iv_get hv (k := 4) (j := 6) (l := 0) (u := 40) rfl
                            have h1305_ := iv_get hv (k := 146) (j := 2) (l := 0) (u := 40) rfl
                            have h1306_ := iv_get hv (k := 2) (j := 1) (l := 0) (u := 200) rfl
                            have h1307_ := iv_get hv (k := 146) (j := 22) (l := 0) (u := 200) rfl
                            have h1308_ := iv_get hv (k := 105) (j := 5) (l := 0) (u := 10) rfl
                            have h1309_ := iv_get hv (k := 146) (j := 68) (l := 0) (u := 10) rfl
                            exact lw_op490 E d hd hL y3 hy0 (by omega) hnext a b hv hg0 hg1 hg2 hg3 hg4 hg5 hg6 hg7 hg8 hg9 hg10 (show a 0 0 = a 146 0 from by omega) (show a 4 6 = a 146 2 from by omega) (show a 2 1 = a 146 22 from by omega) (show a 105 5 = a 146 68 from by omega)
                          ·
                            refine jt_ite (fun c1310_ => ?_) (fun c1310_ => ?_)
                            ·
                              have h1311_ := iv_get hv (k := 0) (j := 0) (l := 0) (u := 1999) rfl
                              have h1312_ := iv_get hv (k := 146) (j := 0) (l := 0) (u := 1999) rfl
                              have h1313_ := iv_get hv (k := 4) (j := 6) (l := 0) (u := 40) rfl
                              have h1314_ := iv_get hv (k := 146) (j := 2) (l := 0) (u := 40) rfl
                              have h1315_ := iv_get hv (k := 2) (j := 1) (l := 0) (u := 200) rfl
                              have h1316_ := iv_get hv (k := 146) (j := 22) (l := 0) (u := 200) rfl
                              have h1317_ := iv_get hv (k := 105) (j := 5) (l := 0) (u := 10) rfl
                              have h1318_ := iv_get hv (k := 146) (j := 68) (l := 0) (u := 10) rfl
                              exact lw_op523 E d hd hL y3 hy0 (by omega) hnext a b hv hg0 hg1 hg2 hg3 hg4 hg5 hg6 hg7 hg8 hg9 hg10 (show a 0 0 = a 146 0 from by omega) (show a 4 6 = a 146 2 from by omega) (show a 2 1 = a 146 22 from by omega) (show a 105 5 = a 146 68 from by omega)
                            ·
                              refine jt_ite (fun c1319_ => ?_) (fun c1319_ => ?_)
                              ·
                                have h1320_ := iv_get hv (k := 0) (j := 0) (l := 0) (u := 1999) rfl
                                have h1321_ := iv_get hv (k := 146) (j := 0) (l := 0) (u := 1999) rfl
                                have h1322_ := iv_get hv (k := 4) (j := 6) (l := 0) (u := 40) rfl
                                have h1323_ := iv_get hv (k := 146) (j := 2) (l := 0) (u := 40) rfl
                                have h1324_ := iv_get hv (k := 2) (j := 1) (l := 0) (u := 200) rfl
                                have h1325_ := iv_get hv (k := 146) (j := 22) (l := 0) (u := 200) rfl
                                have h1326_ := iv_get hv (k := 105) (j := 5) (l := 0) (u := 10) rfl
                                have h1327_ := iv_get hv (k := 146) (j := 68) (l := 0) (u := 10) rfl
                                exact lw_op546 E d hd hL y3 hy0 (by omega) hnext a b hv hg0 hg1 hg2 hg3 hg4 hg5 hg6 hg7 hg8 hg9 hg10 (show a 0 0 = a 146 0 from by omega) (show a 4 6 = a 146 2 from by omega) (show a 2 1 = a 146 22 from by omega) (show a 105 5 = a 146 68 from by omega)
                              ·
                                refine jt_ite (fun c1328_ => ?_) (fun c1328_ => ?_)
                                ·
                                  have h1329_ := iv_get hv (k := 0) (j := 0) (l := 0) (u := 1999) rfl
                                  have h1330_ := iv_get hv (k := 146) (j := 0) (l := 0) (u := 1999) rfl
                                  have h1331_ := iv_get hv (k := 4) (j := 6) (l := 0) (u := 40) rfl
                                  have h1332_ := iv_get hv (k := 146) (j := 2) (l := 0) (u := 40) rfl
                                  have h1333_ := iv_get hv (k := 2) (j := 1) (l := 0) (u := 200) rfl
                                  have h1334_ := iv_get hv (k := 146) (j := 22) (l := 0) (u := 200) rfl
                                  have h1335_ := iv_get hv (k := 105) (j := 5) (l := 0) (u := 10) rfl
                                  have h1336_ := iv_get hv (k := 146) (j := 68) (l := 0) (u := 10) rfl
                                  exact lw_op559 E d hd hL y3 hy0 (by omega) hnext a b hv hg0 hg1 hg2 hg3 hg4 hg5 hg6 hg7 hg8 hg9 hg10 (show a 0 0 = a 146 0 from by omega) (show a 4 6 = a 146 2 from by omega) (show a 2 1 = a 146 22 from by omega) (show a 105 5 = a 146 68 from by omega)
                                ·
                                  refine jt_ite (fun c1337_ => ?_) (fun c1337_ => ?_)
                                  ·
                                    have h1338_ := iv_get hv (k := 0) (j := 0) (l := 0) (u := 1999) rfl
                                    have h1339_ := iv_get hv (k := 146) (j := 0) (l := 0) (u := 1999) rfl
                                    have h1340_ := iv_get hv (k := 4) (j := 6) (l := 0) (u := 40) rfl
                                    have h1341_ := iv_get hv (k := 146) (j := 2) (l := 0) (u := 40) rfl
                                    have h1342_ := iv_get hv (k := 2) (j := 1) (l := 0) (u := 200) rfl
                                    have h1343_ := iv_get hv (k := 146) (j := 22) (l := 0) (u := 200) rfl
                                    have h1344_ := iv_get hv (k := 105) (j := 5) (l := 0) (u := 10) rfl
                                    have h1345_ := iv_get hv (k := 146) (j := 68) (l := 0) (u := 10) rfl
                                    exact lw_op592 E d hd hL y3 hy0 (by omega) hnext a b hv hg0 hg1 hg2 hg3 hg4 hg5 hg6 hg7 hg8 hg9 hg10 (show a 0 0 = a 146 0 from by omega) (show a 4 6 = a 146 2 from by omega) (show a 2 1 = a 146 22 from by omega) (show a 105 5 = a 146 68 from by omega)
                                  ·
                                    refine jt_ite (fun c1346_ => ?_) (fun c1346_ => ?_)
                                    ·
                                      have h1347_ := iv_get hv (k := 0) (j := 0) (l := 0) (u := 1999) rfl
                                      have h1348_ := iv_get hv (k := 146) (j := 0) (l := 0) (u := 1999) rfl
                                      have h1349_ := iv_get hv (k := 4) (j := 6) (l := 0) (u := 40) rfl
                                      have h1350_ := iv_get hv (k := 146) (j := 2) (l := 0) (u := 40) rfl
                                      have h1351_ := iv_get hv (k := 2) (j := 1) (l := 0) (u := 200) rfl
                                      have h1352_ := iv_get hv (k := 146) (j := 22) (l := 0) (u := 200) rfl
                                      have h1353_ := iv_get hv (k := 105) (j := 5) (l := 0) (u := 10) rfl
                                      have h1354_ := iv_get hv (k := 146) (j := 68) (l := 0) (u := 10) rfl
                                      exact lw_op615 E d hd hL y3 hy0 (by omega) hnext a b hv hg0 hg1 hg2 hg3 hg4 hg5 hg6 hg7 hg8 hg9 hg10 (show a 0 0 = a 146 0 from by omega) (show a 4 6 = a 146 2 from by omega) (show a 2 1 = a 146 22 from by omega) (show a 105 5 = a 146 68 from by omega)
                                    ·
                                      refine jt_ite (fun c1355_ => ?_) (fun c1355_ => ?_)
                                      ·
                                        have h1356_ := iv_get hv (k := 0) (j := 0) (l := 0) (u := 1999) rfl
                                        have h1357_ := iv_get hv (k := 146) (j := 0) (l := 0) (u := 1999) rfl
                                        have h1358_ := iv_get hv (k := 4) (j := 6) (l := 0) (u := 40) rfl
                                        have h1359_ := iv_get hv (k := 146) (j := 2) (l := 0) (u := 40) rfl
                                        have h1360_ := iv_get hv (k := 2) (j := 1) (l := 0) (u := 200) rfl
                                        have h1361_ := iv_get hv (k := 146) (j := 22) (l := 0) (u := 200) rfl
                                        have h1362_ := iv_get hv (k := 105) (j := 5) (l := 0) (u := 10) rfl
                                        have h1363_ := iv_get hv (k := 146) (j := 68) (l := 0) (u := 10) rfl
                                        exact lw_op648 E d hd hL y3 hy0 (by omega) hnext a b hv hg0 hg1 hg2 hg3 hg4 hg5 hg6 hg7 hg8 hg9 hg10 (show a 0 0 = a 146 0 from by omega) (show a 4 6 = a 146 2 from by omega) (show a 2 1 = a 146 22 from by omega) (show a 105 5 = a 146 68 from by omega)
                                      ·
                                        refine jt_ite (fun c1364_ => ?_) (fun c1364_ => ?_)
                                        ·
                                          have h1365_ := iv_get hv (k := 0) (j := 0) (l := 0) (u := 1999) rfl
                                          have h1366_ := iv_get hv (k := 146) (j := 0) (l := 0) (u := 1999) rfl
                                          have h1367_ := iv_get hv (k := 4) (j := 6) (l := 0) (u := 40) rfl
                                          have h1368_ := iv_get hv (k := 146) (j := 2) (l := 0) (u := 40) rfl
                                          have h1369_ := iv_get hv (k := 2) (j := 1) (l := 0) (u := 200) rfl
                                          have h1370_ := iv_get hv (k := 146) (j := 22) (l := 0) (u := 200) rfl
                                          have h1371_ := iv_get hv (k := 105) (j := 5) (l := 0) (u := 10) rfl
                                          have h1372_ := iv_get hv (k := 146) (j := 68) (l := 0) (u := 10) rfl
                                          exact lw_op691 E d hd hL y3 hy0 (by omega) hnext a b hv hg0 hg1 hg2 hg3 hg4 hg5 hg6 hg7 hg8 hg9 hg10 (show a 0 0 = a 146 0 from by omega) (show a 4 6 = a 146 2 from by omega) (show a 2 1 = a 146 22 from by omega) (show a 105 5 = a 146 68 from by omega)
                                        ·
                                          refine jt_ite (fun c1373_ => ?_) (fun c1373_ => ?_)
                                          ·
                                            have h1374_ := iv_get hv (k := 0) (j := 0) (l := 0) (u := 1999) rfl
                                            have h1375_ := iv_get hv (k := 146) (j := 0) (l := 0) (u := 1999) rfl
                                            have h1376_ := iv_get hv (k := 4) (j := 6) (l := 0) (u := 40) rfl
                                            have h1377_ := iv_get hv (k := 146) (j := 2) (l := 0) (u := 40) rfl
                                            have h1378_ := iv_get hv (k := 2) (j := 1) (l := 0) (u := 200) rfl
                                            have h1379_ := iv_get hv (k := 146) (j := 22) (l := 0) (u := 200) rfl
                                            have h1380_ := iv_get hv (k := 105) (j := 5) (l := 0) (u := 10) rfl
                                            have h1381_ := iv_get hv (k := 146) (j := 68) (l := 0) (u := 10) rfl
                                            exact lw_op724 E d hd hL y3 hy0 (by omega) hnext a b hv hg0 hg1 hg2 hg3 hg4 hg5 hg6 hg7 hg8 hg9 hg10 (show a 0 0 = a 146 0 from by omega) (show a 4 6 = a 146 2 from by omega) (show a 2 1 = a 146 22 from by omega) (show a 105 5 = a 146 68 from by omega)
                                          ·
                                            refine jt_ite (fun c1382_ => ?_) (fun c1382_ => ?_)
                                            ·
                                              have h1383_ := iv_get hv (k := 0) (j := 0) (l := 0) (u := 1999) rfl
                                              have h1384_ := iv_get hv (k := 146) (j := 0) (l := 0) (u := 1999) rfl
                                              have h1385_ := iv_get hv (k := 4) (j := 6) (l := 0) (u := 40) rfl
                                              have h1386_ := iv_get hv (k := 146) (j := 2) (l := 0) (u := 40) rfl
                                              have h1387_ := iv_get hv (k := 2) (j := 1) (l := 0) (u := 200) rfl
                                              have h1388_ := iv_get hv (k := 146) (j := 22) (l := 0) (u := 200) rfl
                                              have h1389_ := iv_get hv (k := 105) (j := 5) (l := 0) (u := 10) rfl
                                              have h1390_ := iv_get hv (k := 146) (j := 68) (l := 0) (u := 10) rfl
                                              exact lw_op747 E d hd hL y3 hy0 (by omega) hnext a b hv hg0 hg1 hg2 hg3 hg4 hg5 hg6 hg7 hg8 hg9 hg10 (show a 0 0 = a 146 0 from by omega) (show a 4 6 = a 146 2 from by omega) (show a 2 1 = a 146 22 from by omega) (show a 105 5 = a 146 68 from by omega)
                                            ·
                                              refine jt_ite (fun c1391_ => ?_) (fun c1391_ => ?_)
                                              ·
                                                have h1392_ := iv_get hv (k := 0) (j := 0) (l := 0) (u := 1999) rfl
                                                have h1393_ := iv_get hv (k := 146) (j := 0) (l := 0) (u := 1999) rfl
                                                have h1394_ := iv_get hv (k := 4) (j := 6) (l := 0) (u := 40) rfl
                                                have h1395_ := iv_get hv (k := 146) (j := 2) (l := 0) (u := 40) rfl
                                                have h1396_ := iv_get hv (k := 2) (j := 1) (l := 0) (u := 200) rfl
                                                have h1397_ := iv_get hv (k := 146) (j := 22) (l := 0) (u := 200) rfl
                                                have h1398_ := iv_get hv (k := 105) (j := 5) (l := 0) (u := 10) rfl
                                                have h1399_ := iv_get hv (k := 146) (j := 68) (l := 0) (u := 10) rfl
                                                exact lw_op790 E d hd hL y3 hy0 (by omega) hnext a b hv hg0 hg1 hg2 hg3 hg4 hg5 hg6 hg7 hg8 hg9 hg10 (show a 0 0 = a 146 0 from by omega) (show a 4 6 = a 146 2 from by omega) (show a 2 1 = a 146 22 from by omega) (show a 105 5 = a 146 68 from by omega)
                                              ·
                                                refine jt_ite (fun c1400_ => ?_) (fun c1400_ => ?_)
                                                ·
                                                  have h1401_ := iv_get hv (k := 0) (j := 0) (l := 0) (u := 1999) rfl
                                                  have h1402_ := iv_get hv (k := 146) (j := 0) (l := 0) (u := 1999) rfl
                                                  have h1403_ := iv_get hv (k := 4) (j := 6) (l := 0) (u := 40) rfl
                                                  have h1404_ := iv_get hv (k := 146) (j := 2) (l := 0) (u := 40) rfl
                                                  have h1405_ := iv_get hv (k := 2) (j := 1) (l := 0) (u := 200) rfl
                                                  have h1406_ := iv_get hv (k := 146) (j := 22) (l := 0) (u := 200) rfl
                                                  have h1407_ := iv_get hv (k := 105) (j := 5) (l := 0) (u := 10) rfl
                                                  have h1408_ := iv_get hv (k := 146) (j := 68) (l := 0) (u := 10) rfl
                                                  exact lw_op833 E d hd hL y3 hy0 (by omega) hnext a b hv hg0 hg1 hg2 hg3 hg4 hg5 hg6 hg7 hg8 hg9 hg10 (show a 0 0 = a 146 0 from by omega) (show a 4 6 = a 146 2 from by omega) (show a 2 1 = a 146 22 from by omega) (show a 105 5 = a 146 68 from by omega)
                                                ·
                                                  refine jt_ite (fun c1409_ => ?_) (fun c1409_ => ?_)
                                                  ·
                                                    have h1410_ := iv_get hv (k := 0) (j := 0) (l := 0) (u := 1999) rfl
                                                    have h1411_ := iv_get hv (k := 146) (j := 0) (l := 0) (u := 1999) rfl
                                                    have h1412_ := iv_get hv (k := 4) (j := 6) (l := 0) (u := 40) rfl
                                                    have h1413_ := iv_get hv (k := 146) (j := 2) (l := 0) (u := 40) rfl
                                                    have h1414_ := iv_get hv (k := 2) (j := 1) (l := 0) (u := 200) rfl
                                                    have h1415_ := iv_get hv (k := 146) (j := 22) (l := 0) (u := 200) rfl
                                                    have h1416_ := iv_get hv (k := 105) (j := 5) (l := 0) (u := 10) rfl
                                                    have h1417_ := iv_get hv (k := 146) (j := 68) (l := 0) (u := 10) rfl
                                                    exact lw_op856 E d hd hL y3 hy0 (by omega) hnext a b hv hg0 hg1 hg2 hg3 hg4 hg5 hg6 hg7 hg8 hg9 hg10 (show a 0 0 = a 146 0 from by omega) (show a 4 6 = a 146 2 from by omega) (show a 2 1 = a 146 22 from by omega) (show a 105 5 = a 146 68 from by omega)
                                                  ·
                                                    refine jt_ite (fun c1418_ => ?_) (fun c1418_ => ?_)
                                                    ·
                                                      have h1419_ := iv_get hv (k := 0) (j := 0) (l := 0) (u := 1999) rfl
                                                      have h1420_ := iv_get hv (k := 146) (j := 0) (l := 0) (u := 1999) rfl
                                                      have h1421_ := iv_get hv (k := 4) (j := 6) (l := 0) (u := 40) rfl
                                                      have h1422_ := iv_get hv (k := 146) (j := 2) (l := 0) (u := 40) rfl
                                                      have h1423_ := iv_get hv (k := 2) (j := 1) (l := 0) (u := 200) rfl
                                                      have h1424_ := iv_get hv (k := 146) (j := 22) (l := 0) (u := 200) rfl
                                                      have h1425_ := iv_get hv (k := 105) (j := 5) (l := 0) (u := 10) rfl
                                                      have h1426_ := iv_get hv (k := 146) (j := 68) (l := 0) (u := 10) rfl
                                                      exact lw_op869 E d hd hL y3 hy0 (by omega) hnext a b hv hg0 hg1 hg2 hg3 hg4 hg5 hg6 hg7 hg8 hg9 hg10 (show a 0 0 = a 146 0 from by omega) (show a 4 6 = a 146 2 from by omega) (show a 2 1 = a 146 22 from by omega) (show a 105 5 = a 146 68 from by omega)
                                                    ·
                                                      refine jt_ite (fun c1427_ => ?_) (fun c1427_ => ?_)
                                                      ·
                                                        have h1428_ := iv_get hv (k := 0) (j := 0) (l := 0) (u := 1999) rfl
                                                        have h1429_ := iv_get hv (k := 146) (j := 0) (l := 0) (u := 1999) rfl
                                                        have h1430_ := iv_get hv (k := 4) (j := 6) (l := 0) (u := 40) rfl
                                                        have h1431_ := iv_get hv (k := 146) (j := 2) (l := 0) (u := 40) rfl
                                                        have h1432_ := iv_get hv (k := 2) (j := 1) (l := 0) (u := 200) rfl
                                                        have h1433_ := iv_get hv (k := 146) (j := 22) (l := 0) (u := 200) rfl
                                                        have h1434_ := iv_get hv (k := 105) (j := 5) (l := 0) (u := 10) rfl
                                                        have h1435_ := iv_get hv (k := 146) (j := 68) (l := 0) (u := 10) rfl
                                                        exact lw_op902 E d hd hL y3 hy0 (by omega) hnext a b hv hg0 hg1 hg2 hg3 hg4 hg5 hg6 hg7 hg8 hg9 hg10 (show a 0 0 = a 146 0 from by omega) (show a 4 6 = a 146 2 from by omega) (show a 2 1 = a 146 22 from by omega) (show a 105 5 = a 146 68 from by omega)
                                                      ·
                                                        refine jt_ite (fun c1436_ => ?_) (fun c1436_ => ?_)
                                                        ·
                                                          have h1437_ := iv_get hv (k := 0) (j := 0) (l := 0) (u := 1999) rfl
                                                          have h1438_ := iv_get hv (k := 146) (j := 0) (l := 0) (u := 1999) rfl
                                                          have h1439_ := iv_get hv (k := 4) (j := 6) (l := 0) (u := 40) rfl
                                                          have h1440_ := iv_get hv (k := 146) (j := 2) (l := 0) (u := 40) rfl
                                                          have h1441_ := iv_get hv (k := 2) (j := 1) (l := 0) (u := 200) rfl
                                                          have h1442_ := iv_get hv (k := 146) (j := 22) (l := 0) (u := 200) rfl
                                                          have h1443_ := iv_get hv (k := 105) (j := 5) (l := 0) (u := 10) rfl
                                                          have h1444_ := iv_get hv (k := 146) (j := 68) (l := 0) (u := 10) rfl
                                                          exact lw_op925 E d hd hL y3 hy0 (by omega) hnext a b hv hg0 hg1 hg2 hg3 hg4 hg5 hg6 hg7 hg8 hg9 hg10 (show a 0 0 = a 146 0 from by omega) (show a 4 6 = a 146 2 from by omega) (show a 2 1 = a 146 22 from by omega) (show a 105 5 = a 146 68 from by omega)
                                                        ·
                                                          refine jt_ite (fun c1445_ => ?_) (fun c1445_ => ?_)
                                                          ·
                                                            have h1446_ := iv_get hv (k := 0) (j := 0) (l := 0) (u := 1999) rfl
                                                            have h1447_ := iv_get hv (k := 146) (j := 0) (l := 0) (u := 1999) rfl
                                                            have h1448_ := iv_get hv (k := 4) (j := 6) (l := 0) (u := 40) rfl
                                                            have h1449_ := iv_get hv (k := 146) (j := 2) (l := 0) (u := 40) rfl
                                                            have h1450_ := iv_get hv (k := 2) (j := 1) (l := 0) (u := 200) rfl
                                                            have h1451_ := iv_get hv (k := 146) (j := 22) (l := 0) (u := 200) rfl
                                                            have h1452_ := iv_get hv (k := 105) (j := 5) (l := 0) (u := 10) rfl
                                                            have h1453_ := iv_get hv (k := 146) (j := 68) (l := 0) (u := 10) rfl
                                                            exact lw_op958 E d hd hL y3 hy0 (by omega) hnext a b hv hg0 hg1 hg2 hg3 hg4 hg5 hg6 hg7 hg8 hg9 hg10 (show a 0 0 = a 146 0 from by omega) (show a 4 6 = a 146 2 from by omega) (show a 2 1 = a 146 22 from by omega) (show a 105 5 = a 146 68 from by omega)
                                                          ·
                                                            refine jt_ite (fun c1454_ => ?_) (fun c1454_ => ?_)
                                                            ·
                                                              have h1455_ := iv_get hv (k := 0) (j := 0) (l := 0) (u := 1999) rfl
                                                              have h1456_ := iv_get hv (k := 146) (j := 0) (l := 0) (u := 1999) rfl
                                                              have h1457_ := iv_get hv (k := 4) (j := 6) (l := 0) (u := 40) rfl
                                                              have h1458_ := iv_get hv (k := 146) (j := 2) (l := 0) (u := 40) rfl
                                                              have h1459_ := iv_get hv (k := 2) (j := 1) (l := 0) (u := 200) rfl
                                                              have h1460_ := iv_get hv (k := 146) (j := 22) (l := 0) (u := 200) rfl
                                                              have h1461_ := iv_get hv (k := 105) (j := 5) (l := 0) (u := 10) rfl
                                                              have h1462_ := iv_get hv (k := 146) (j := 68) (l := 0) (u := 10) rfl
                                                              exact lw_op991 E d hd hL y3 hy0 (by omega) hnext a b hv hg0 hg1 hg2 hg3 hg4 hg5 hg6 hg7 hg8 hg9 hg10 (show a 0 0 = a 146 0 from by omega) (show a 4 6 = a 146 2 from by omega) (show a 2 1 = a 146 22 from by omega) (show a 105 5 = a 146 68 from by omega)
                                                            ·
                                                              refine jt_ite (fun c1463_ => ?_) (fun c1463_ => ?_)
                                                              ·
                                                                have h1464_ := iv_get hv (k := 0) (j := 0) (l := 0) (u := 1999) rfl
                                                                have h1465_ := iv_get hv (k := 146) (j := 0) (l := 0) (u := 1999) rfl
                                                                have h1466_ := iv_get hv (k := 4) (j := 6) (l := 0) (u := 40) rfl
                                                                have h1467_ := iv_get hv (k := 146) (j := 2) (l := 0) (u := 40) rfl
                                                                have h1468_ := iv_get hv (k := 2) (j := 1) (l := 0) (u := 200) rfl
                                                                have h1469_ := iv_get hv (k := 146) (j := 22) (l := 0) (u := 200) rfl
                                                                have h1470_ := iv_get hv (k := 105) (j := 5) (l := 0) (u := 10) rfl
                                                                have h1471_ := iv_get hv (k := 146) (j := 68) (l := 0) (u := 10) rfl
                                                                exact lw_op1014 E d hd hL y3 hy0 (by omega) hnext a b hv hg0 hg1 hg2 hg3 hg4 hg5 hg6 hg7 hg8 hg9 hg10 (show a 0 0 = a 146 0 from by omega) (show a 4 6 = a 146 2 from by omega) (show a 2 1 = a 146 22 from by omega) (show a 105 5 = a 146 68 from by omega)
                                                              ·
                                                                refine jt_ite (fun c1472_ => ?_) (fun c1472_ => ?_)
                                                                ·
                                                                  have h1473_ := iv_get hv (k := 0) (j := 0) (l := 0) (u := 1999) rfl
                                                                  have h1474_ := iv_get hv (k := 146) (j := 0) (l := 0) (u := 1999) rfl
                                                                  have h1475_ := iv_get hv (k := 4) (j := 6) (l := 0) (u := 40) rfl
                                                                  have h1476_ := iv_get hv (k := 146) (j := 2) (l := 0) (u := 40) rfl
                                                                  have h1477_ := iv_get hv (k := 2) (j := 1) (l := 0) (u := 200) rfl
                                                                  have h1478_ := iv_get hv (k := 146) (j := 22) (l := 0) (u := 200) rfl
                                                                  have h1479_ := iv_get hv (k := 105) (j := 5) (l := 0) (u := 10) rfl
                                                                  have h1480_ := iv_get hv (k := 146) (j := 68) (l := 0) (u := 10) rfl
                                                                  exact lw_op1067 E d hd hL y3 hy0 (by omega) hnext a b hv hg0 hg1 hg2 hg3 hg4 hg5 hg6 hg7 hg8 hg9 hg10 (show a 0 0 = a 146 0 from by omega) (show a 4 6 = a 146 2 from by omega) (show a 2 1 = a 146 22 from by omega) (show a 105 5 = a 146 68 from by omega)
                                                                ·
                                                                  refine jt_ite (fun c1481_ => ?_) (fun c1481_ => ?_)
                                                                  ·
                                                                    have h1482_ := iv_get hv (k := 0) (j := 0) (l := 0) (u := 1999) rfl
                                                                    have h1483_ := iv_get hv (k := 146) (j := 0) (l := 0) (u := 1999) rfl
                                                                    have h1484_ := iv_get hv (k := 4) (j := 6) (l := 0) (u := 40) rfl
                                                                    have h1485_ := iv_get hv (k := 146) (j := 2) (l := 0) (u := 40) rfl
                                                                    have h1486_ := iv_get hv (k := 2) (j := 1) (l := 0) (u := 200) rfl
                                                                    have h1487_ := iv_get hv (k := 146) (j := 22) (l := 0) (u := 200) rfl
                                                                    have h1488_ := iv_get hv (k := 105) (j := 5) (l := 0) (u := 10) rfl
                                                                    have h1489_ := iv_get hv (k := 146) (j := 68) (l := 0) (u := 10) rfl
                                                                    exact lw_op1110 E d hd hL y3 hy0 (by omega) hnext a b hv hg0 hg1 hg2 hg3 hg4 hg5 hg6 hg7 hg8 hg9 hg10 (show a 0 0 = a 146 0 from by omega) (show a 4 6 = a 146 2 from by omega) (show a 2 1 = a 146 22 from by omega) (show a 105 5 = a 146 68 from by omega)
                                                                  ·
                                                                    refine jt_ite (fun c1490_ => ?_) (fun c1490_ => ?_)
                                                                    ·
                                                                      have h1491_ := iv_get hv (k := 0) (j := 0) (l := 0) (u := 1999) rfl
                                                                      have h1492_ := iv_get hv (k := 146) (j := 0) (l := 0) (u := 1999) rfl
                                                                      have h1493_ := iv_get hv (k := 4) (j := 6) (l := 0) (u := 40) rfl
                                                                      have h1494_ := iv_get hv (k := 146) (j := 2) (l := 0) (u := 40) rfl
                                                                      have h1495_ := iv_get hv (k := 2) (j := 1) (l := 0) (u := 200) rfl
                                                                      have h1496_ := iv_get hv (k := 146) (j := 22) (l := 0) (u := 200) rfl
                                                                      have h1497_ := iv_get hv (k := 105) (j := 5) (l := 0) (u := 10) rfl
                                                                      have h1498_ := iv_get hv (k := 146) (j := 68) (l := 0) (u := 10) rfl
                                                                      exact lw_op1143 E d hd hL y3 hy0 (by omega) hnext a b hv hg0 hg1 hg2 hg3 hg4 hg5 hg6 hg7 hg8 hg9 hg10 (show a 0 0 = a 146 0 from by omega) (show a 4 6 = a 146 2 from by omega) (show a 2 1 = a 146 22 from by omega) (show a 105 5 = a 146 68 from by omega)
                                                                    ·
                                                                      refine jt_ite (fun c1499_ => ?_) (fun c1499_ => ?_)
                                                                      ·
                                                                        have h1500_ := iv_get hv (k := 0) (j := 0) (l := 0) (u := 1999) rfl
                                                                        have h1501_ := iv_get hv (k := 146) (j := 0) (l := 0) (u := 1999) rfl
                                                                        have h1502_ := iv_get hv (k := 4) (j := 6) (l := 0) (u := 40) rfl
                                                                        have h1503_ := iv_get hv (k := 146) (j := 2) (l := 0) (u := 40) rfl
                                                                        have h1504_ := iv_get hv (k := 2) (j := 1) (l := 0) (u := 200) rfl
                                                                        have h1505_ := iv_get hv (k := 146) (j := 22) (l := 0) (u := 200) rfl
                                                                        have h1506_ := iv_get hv (k := 105) (j := 5) (l := 0) (u := 10) rfl
                                                                        have h1507_ := iv_get hv (k := 146) (j := 68) (l := 0) (u := 10) rfl
                                                                        exact lw_op1166 E d hd hL y3 hy0 (by omega) hnext a b hv hg0 hg1 hg2 hg3 hg4 hg5 hg6 hg7 hg8 hg9 hg10 (show a 0 0 = a 146 0 from by omega) (show a 4 6 = a 146 2 from by omega) (show a 2 1 = a 146 22 from by omega) (show a 105 5 = a 146 68 from by omega)
                                                                      ·
                                                                        exact absurd (by omega : False) id
