/-! constants, statics, new cells -/
section JX7
variable {p : Program} {l : Launch} {e : Env} {R : Room} {s : State} {m : MethodId} {args : Array Value} {below : List Frame} {meth : Method} {c : Code} {Q : State → Prop}
variable {B : Nat} {ad : Nat → Nat} {ac : Nat → ClassId} {D : va_G} {E : jxE} {nL n0 m0 : Nat}
variable {cc : ByteArray} {pc own : Nat} {L : jxL} {st : List jxV} {S : jxS} {r : jxR} {go : jxG}
theorem jxs_ldc {idx : Nat} (hx : p.tables.exec = Jvm.exec) (hb : c.code = cc) (hts : ∀ w ∈ jxgoodw, w.before args s = true) (hown : s.vm.findClass (jxcn own) = some m.cls) (hst : jxst B ad ac D E s) (hdg : decode cc pc = .ok (.ldc idx, 2)) (h : (match jxfind2 jxldc own idx with
    | some (.inl v) => go (pc + 2) L (.inl v :: st) S
    | some (.inr (.inr (.inl v))) => go (pc + 2) L (.inr (.inr (.inl v)) :: st) S
    | _ => none) = some r) (hgo : ∀ pc L st S, go pc L st S = some r → jxSim p l e R s m args below meth c Q B ad ac D nL n0 m0 pc L st S) : jxSim p l e R s m args below meth c Q B ad ac D nL n0 m0 pc L st S := by
  split at h
  · rename_i a hv
    have hk := jxall_at jxchkK_ok hv
    unfold jxchkK at hk
    intro H locs ls hd hl hs
    dsimp only at hk
    split at hk
    · rename_i i hi
      simp only [Bool.and_eq_true, decide_eq_true_eq] at hk
      refine lv_ldc hx hb hown (hts _ (jxat_mem hk.1)) hdg ?_
      exact hgo _ _ _ _ h H locs ls hd hl (List.forall_mem_cons.mpr ⟨hk.2, hs⟩)
    · cases hk
  · rename_i r0 hv
    have hk := jxall_at jxchkK_ok hv
    unfold jxchkK at hk
    intro H locs ls hd hl hs
    dsimp only at hk
    simp only [Bool.and_eq_true] at hk
    obtain ⟨h1, h2⟩ := hk
    have h1 := Nat.le_of_ble_eq_true h1
    split at h2
    · rename_i q hq
      simp only [decide_eq_true_eq] at h2
      obtain ⟨h3, h4⟩ := h2
      have hR := hst.2.2.2.2.1 _ q hq
      rw [show 1000 + (r0 - 1000) = r0 by omega] at hR
      rw [h3, h4] at hR
      refine va_ldcS hx hb hown hR hdg ?_
      have h5 := hgo _ _ _ _ h H locs ls hd hl (List.forall_mem_cons.mpr ⟨trivial, hs⟩)
      rw [List.map_cons, jx_gf h1 (by have h92 := (List.getElem?_eq_some_iff.mp hq).1; have h93 : jxstrs.length = 16 := rfl; omega)] at h5
      exact h5
    · cases h2
  · cases h
theorem jxs_ldcw {idx : Nat} (hx : p.tables.exec = Jvm.exec) (hb : c.code = cc) (hts : ∀ w ∈ jxgoodw, w.before args s = true) (hown : s.vm.findClass (jxcn own) = some m.cls) (hst : jxst B ad ac D E s) (hdg : decode cc pc = .ok (.ldc_w idx, 3)) (h : (match jxfind2 jxldc own idx with
    | some (.inl v) => go (pc + 3) L (.inl v :: st) S
    | _ => none) = some r) (hgo : ∀ pc L st S, go pc L st S = some r → jxSim p l e R s m args below meth c Q B ad ac D nL n0 m0 pc L st S) : jxSim p l e R s m args below meth c Q B ad ac D nL n0 m0 pc L st S := by
  split at h
  · rename_i a hv
    have hk := jxall_at jxchkK_ok hv
    unfold jxchkK at hk
    intro H locs ls hd hl hs
    dsimp only at hk
    split at hk
    · rename_i i hi
      simp only [Bool.and_eq_true, decide_eq_true_eq] at hk
      refine lv_ldcw hx hb hown (hts _ (jxat_mem hk.1)) hdg ?_
      exact hgo _ _ _ _ h H locs ls hd hl (List.forall_mem_cons.mpr ⟨hk.2, hs⟩)
    · cases hk
  · cases h
theorem jxs_ldc2 {idx : Nat} (hx : p.tables.exec = Jvm.exec) (hb : c.code = cc) (hts : ∀ w ∈ jxgoodw, w.before args s = true) (hown : s.vm.findClass (jxcn own) = some m.cls) (hst : jxst B ad ac D E s) (hdg : decode cc pc = .ok (.ldc2_w idx, 3)) (h : (match jxfind2 jxldc own idx with
    | some (.inr (.inl v)) => go (pc + 3) L (.inr (.inl v) :: st) S
    | _ => none) = some r) (hgo : ∀ pc L st S, go pc L st S = some r → jxSim p l e R s m args below meth c Q B ad ac D nL n0 m0 pc L st S) : jxSim p l e R s m args below meth c Q B ad ac D nL n0 m0 pc L st S := by
  split at h
  · rename_i a hv
    have hk := jxall_at jxchkK_ok hv
    unfold jxchkK at hk
    intro H locs ls hd hl hs
    dsimp only at hk
    split at hk
    · rename_i i hi
      simp only [Bool.and_eq_true, decide_eq_true_eq] at hk
      refine lv_ldc2 hx hb hown (hts _ (jxat_mem hk.1)) hdg ?_
      exact hgo _ _ _ _ h H locs ls hd hl (List.forall_mem_cons.mpr ⟨hk.2, hs⟩)
    · cases hk
  · cases h
theorem jxs_gets {idx : Nat} (hx : p.tables.exec = Jvm.exec) (hb : c.code = cc) (hts : ∀ w ∈ jxgoodw, w.before args s = true) (hown : s.vm.findClass (jxcn own) = some m.cls) (hst : jxst B ad ac D E s) (hdg : decode cc pc = .ok (.getstatic idx, 3)) (h : (match jxfind2 jxsf own idx with
    | some v => go (pc + 3) L (v :: st) S
    | none => none) = some r) (hgo : ∀ pc L st S, go pc L st S = some r → jxSim p l e R s m args below meth c Q B ad ac D nL n0 m0 pc L st S) : jxSim p l e R s m args below meth c Q B ad ac D nL n0 m0 pc L st S := by
  split at h
  · rename_i v hv
    have hk := jxall_at jxchkS_ok hv
    unfold jxchkS at hk
    intro H locs ls hd hl hs
    split at hk
    · cases hk
    · rename_i i C n d hi
      simp only [Bool.and_eq_true] at hk
      obtain ⟨h1, h2⟩ := hk
      split at h2
      · rename_i a
        simp only [decide_eq_true_eq] at h2
        obtain ⟨rfl, rfl, rfl, rfl⟩ := h2
        refine va_gets hx hb hst.2.2.2.2.2.2.2.1 hd.2.2.2.1 hown (hts _ (jxat_mem h1)) (fun _ h9 => h9) hdg ?_
        exact hgo _ _ _ _ h H locs ls hd hl (List.forall_mem_cons.mpr ⟨⟨by omega, by omega⟩, hs⟩)
      · rename_i r0
        cases h4 : Nat.beq r0 4000 <;> rw [h4] at h2 <;> simp only [cond_true, cond_false] at h2
        · simp only [Bool.and_eq_true, decide_eq_true_eq] at h2
          obtain ⟨h5, rfl, rfl, h6⟩ := h2
          have h5 := Nat.le_of_ble_eq_true h5
          have hZ := hst.2.2.2.2.2.2.1 _ n h6
          rw [show 3001 + (r0 - 3001) = r0 by omega] at hZ
          refine va_gets hx hb hZ hd.2.2.2.1 hown (hts _ (jxat_mem h1)) (fun _ h9 => h9) hdg ?_
          have h7 := hgo _ _ _ _ h H locs ls hd hl (List.forall_mem_cons.mpr ⟨trivial, hs⟩)
          rw [List.map_cons, jx_gf (by omega) (Nat.ne_of_beq_eq_false h4)] at h7
          exact h7
        · have : r0 = 4000 := Nat.eq_of_beq_eq_true h4
          subst this
          simp only [decide_eq_true_eq] at h2
          obtain ⟨rfl, rfl, rfl⟩ := h2
          refine va_gets hx hb hst.2.2.2.2.2.2.2.2.1 hd.2.2.2.1 hown (hts _ (jxat_mem h1)) (fun _ h9 => h9) hdg ?_
          have h7 := hgo _ _ _ _ h H locs ls hd hl (List.forall_mem_cons.mpr ⟨trivial, hs⟩)
          rw [List.map_cons, show jxg B ad (.inr (.inr (.inl 4000))) = jxsio (ad 4000) by simp only [jxg]; exact if_pos trivial] at h7
          exact h7
      · cases h2
  · cases h
theorem jxs_alen (hx : p.tables.exec = Jvm.exec) (hb : c.code = cc) (hst : jxst B ad ac D E s) (hdg : decode cc pc = .ok (.arraylength, 1)) (h : jxalen E S st (fun v r => go (pc + 1) L (.inl v :: r) S) = some r) (hgo : ∀ pc L st S, go pc L st S = some r → jxSim p l e R s m args below meth c Q B ad ac D nL n0 m0 pc L st S) : jxSim p l e R s m args below meth c Q B ad ac D nL n0 m0 pc L st S := by
  unfold jxalen at h
  split at h
  · rename_i r0 rest
    intro H locs ls hd hl hs
    have hs2 : ∀ v ∈ rest, jxokV v := fun v hv => hs v (List.mem_cons_of_mem _ hv)
    rw [List.map_cons]
    split at h
    · rename_i t n w hS
      dsimp only at h
      cases ht : Nat.beq t 0 <;> rw [ht] at h <;> simp only [cond_true, cond_false] at h
      · have ht0 : t ≠ 0 := Nat.ne_of_beq_eq_false ht
        have hlt := jx_lt_of hS
        obtain ⟨k1, k2, k3⟩ := hd.2.1.2.2.2.2.2.2 r0 t n w hS
        rw [jx_gw (by have := hd.2.1.1; omega)]
        have h5 := hgo _ _ _ _ h H locs ls hd hl (List.forall_mem_cons.mpr ⟨(show jxin (n : Int) from ⟨by omega, by omega⟩), hs2⟩)
        have hat := hd.1 r0 _ hS
        have key : ∀ (cA : ClassId) (x : vp_A) (t0 : Nat) (ty : FieldType), jxcell B ad ac S r0 (t, n, w) = .inl (cA, x) → (jxtys ac)[t0]? = some (cA, ty) → x.1 = n → W p l e R s m args below meth c H locs (S.1.length - n0) (jxsz S.1 - m0) Q (F0 m pc ls (.ref (B + r0) :: rest.map (jxg B ad))) := fun cA x t0 ty e1 e2 e3 => by
          rw [e1] at hat
          refine va_alen hx hb hst.2.1 (jx_one hat) 0 t0 rfl e2 (v := Int32.ofInt (n : Int)) (by rw [e3, jx_ofn]) hdg ?_
          exact h5
        have : t = 1 ∨ t = 2 ∨ t = 3 ∨ t = 4 ∨ t = 5 ∨ t = 6 := by omega
        rcases this with rfl | rfl | rfl | rfl | rfl | rfl
        · exact key (ac 1) _ 0 .int rfl rfl rfl
        · exact key (ac 2) _ 1 .long rfl rfl rfl
        · exact key (ac 3) _ 2 .boolean rfl rfl rfl
        · exact key (ac 4) _ 3 .byte rfl rfl rfl
        · exact key (ac 5) _ 4 (.array .int) rfl rfl rfl
        · obtain ⟨g, i, rfl⟩ := k2 rfl
          exact key (ac 1) _ 0 .int rfl rfl rfl
      · cases h
    · split at h
      · rename_i t n f hf
        dsimp only at h
        cases hn9 : Nat.ble n 100000 <;> rw [hn9] at h <;> simp only [cond_true, cond_false] at h
        case false => cases h
        rcases jx_fix hf with ⟨rfl, -, rfl, rfl⟩ | ⟨k, l0, hk, rfl, -, rfl, rfl⟩ | ⟨k, l0, hk, hk16, rfl, -, rfl, -⟩
        · obtain ⟨xs, hX, hB, hsz, hE1, hE⟩ := hst.2.2.1
          rw [jx_gf (by omega) (by omega)]
          refine va_slen hx hb hX hsz (by show ¬ B ≤ _; omega) hd.2.2.2.1 hdg ?_
          have h5 := hgo _ _ _ _ h H locs ls hd hl (List.forall_mem_cons.mpr ⟨(show jxin (E.1 : Int) from ⟨by omega, by omega⟩), hs2⟩)
          rw [List.map_cons, show jxg B ad (.inl (E.1 : Int)) = .int (Int32.ofInt (E.1 : Int)) from rfl, jx_ofn] at h5
          exact h5
        · have hT := hst.2.2.2.2.2.1 k l0 hk
          have hlen := jx_len.1 l0 (List.mem_of_getElem? hk)
          rw [jx_gf (by omega) (by have h92 := (List.getElem?_eq_some_iff.mp hk).1; have h93 : jxstat.length = 3 := rfl; omega)]
          refine va_tlen hx hb hT hd.2.2.2.1 (v := Int32.ofInt (l0.length : Int)) (jx_ofn _).symm hdg ?_
          exact hgo _ _ _ _ h H locs ls hd hl (List.forall_mem_cons.mpr ⟨(show jxin (l0.length : Int) from ⟨by omega, by omega⟩), hs2⟩)
        · have hT := (hst.2.2.2.1.1 k hk16).2.2.2
          have hlen := jx_len.2 l0 (List.mem_of_getElem? hk)
          have hkd : jxtext.getD k [] = l0 := by simp [List.getD, hk]
          have g1 := (jx_textb k hk16).1
          rw [hkd] at g1
          rw [g1] at hT
          rw [jx_gf (by omega) (by omega)]
          refine va_tlen hx hb hT hd.2.2.2.1 (v := Int32.ofInt (l0.length : Int)) (jx_ofn _).symm hdg ?_
          exact hgo _ _ _ _ h H locs ls hd hl (List.forall_mem_cons.mpr ⟨(show jxin (l0.length : Int) from ⟨by omega, by omega⟩), hs2⟩)
      · cases h
  · cases h
theorem jx_push_S {A : Nat → Prop} {H0 H H1 : Heap} {locs : List Loc} {n : Nat} (hS : va_S A H0 H locs) (z : H1.size = H.size + n) (oq : ∀ q : Nat, q < H.size → H1[q]? = H[q]?) : va_S A H0 H1 locs :=
  ⟨Nat.le_trans hS.1 (by omega), fun x h1 h2 => (oq x (Nat.lt_of_lt_of_le h1 hS.1)).trans (hS.2.1 x h1 h2), hS.2.2⟩
theorem jx_atag {t : Jvm.ClassFile.ArrayType} (h : jxatag t ≤ 4) : (t = .int ∨ t = .long ∨ t = .boolean ∨ t = .byte) := by
  cases t <;> first | exact Or.inl rfl | exact Or.inr (Or.inl rfl) | exact Or.inr (Or.inr (Or.inl rfl)) | exact Or.inr (Or.inr (Or.inr rfl)) | (simp [jxatag] at h)
theorem jxs_newa {t : Jvm.ClassFile.ArrayType} (hx : p.tables.exec = Jvm.exec) (hb : c.code = cc) (hts : ∀ w ∈ jxgoodw, w.before args s = true) (hown : s.vm.findClass (jxcn own) = some m.cls) (hst : jxst B ad ac D E s) (hdg : decode cc pc = .ok (.newarray t, 2)) (h : jxnewa S (jxatag t) st (fun st' S' => go (pc + 2) L st' S') = some r) (hgo : ∀ pc L st S, go pc L st S = some r → jxSim p l e R s m args below meth c Q B ad ac D nL n0 m0 pc L st S) (hle : ∀ pc L st S, go pc L st S = some r → jxle S r.2) (hRc : r.2.1.length - n0 ≤ R.cells) (hRs : jxsz r.2.1 - m0 ≤ R.slots) : jxSim p l e R s m args below meth c Q B ad ac D nL n0 m0 pc L st S := by
  unfold jxnewa at h
  split at h
  · rename_i n rest
    cases ht : (Nat.ble (jxatag t) 4 && (Nat.ble n 50000 && Nat.ble S.1.length 900)) <;> rw [ht] at h <;> simp only [cond_true, cond_false] at h
    · cases h
    · simp only [Bool.and_eq_true] at ht
      have ht1 := Nat.le_of_ble_eq_true ht.1
      have ht2 := Nat.le_of_ble_eq_true ht.2.1
      have ht3 := Nat.le_of_ble_eq_true ht.2.2
      intro H locs ls hd hl hs
      have hs2 : ∀ v ∈ rest, jxokV v := fun v hv => hs v (List.mem_cons_of_mem _ hv)
      have hn : jxin (n : Int) := ⟨by omega, by omega⟩
      have hN : (Int32.ofInt (n : Int)).toNatClampNeg = n := by unfold Int32.toNatClampNeg; rw [jx_ti hn]; rfl
      have hn0 : ¬ Int32.ofInt (n : Int) < 0 := fun q => by rw [show (0 : Int32) = Int32.ofInt 0 from rfl, jx_lt hn ⟨by omega, by omega⟩] at q; omega
      have hle1 := hle _ _ _ _ h
      have g1 : S.1.length + 1 ≤ r.2.1.length := by have := hle1.1; simpa using this
      have g2 : jxsz S.1 + n ≤ jxsz r.2.1 := by
        have := hle1.2
        have e : jxsz (S.1 ++ [(jxatag t, n, [])]) = jxsz S.1 + n := by
          rw [jxsz_app]; rcases jx_atag ht1 with rfl | rfl | rfl | rfl <;> simp [jxsz, jxsz1, jxatag]
        have h9 : jxsz (S.1 ++ [(jxatag t, n, [])]) ≤ jxsz r.2.1 := this
        omega
      have hA := jxchkA_ok
      simp only [Bool.and_eq_true] at hA
      have harr : (Jvm.Cond.arrayClass (newarray.typeOf t)).before args s = true := by
        rcases jx_atag ht1 with rfl | rfl | rfl | rfl
        · exact hts _ (jxat_mem hA.1.1.1)
        · exact hts _ (jxat_mem hA.1.1.2)
        · exact hts _ (jxat_mem hA.1.2)
        · exact hts _ (jxat_mem hA.2)
      have hd0 := hd.2.2.2.2
      refine va_newaK hx hb harr rfl hdg (n := Int32.ofInt (n : Int)) rfl hn0 hN (by rcases jx_atag ht1 with rfl | rfl | rfl | rfl <;> simp [componentBytes, newarray.typeOf] <;> omega) (by omega) (by omega) rfl fun H1 cA e1 z1 o1 hAr hNm => ?_
      have hcA : cA = ac (jxatag t) ∧ (∀ S2 : jxS, (∀ j, S2.2.1 S.1.length j = 0) → (∀ j, S2.2.2 S.1.length j = 0) → va_at D vwCl (B + S.1.length, jxcell B ad ac S2 S.1.length (jxatag t, n, [])) H1) := by
        rw [hd.2.2.1] at e1
        rcases jx_atag ht1 with rfl | rfl | rfl | rfl
        · have e2 := (hst.2.1.2 0 (ac 1, .int) rfl).2
          have e3 : some cA = some (ac 1) := hNm.symm.trans e2
          cases e3
          refine ⟨rfl, fun S2 z1 z2 => ?_⟩
          show H1[B + S.1.length]? = some (vp_cell _ _)
          rw [e1, vp_cell_i]
          simp only [z1]
          rfl
        · have e2 := (hst.2.1.2 1 (ac 2, .long) rfl).2
          have e3 : some cA = some (ac 2) := hNm.symm.trans e2
          cases e3
          refine ⟨rfl, fun S2 z1 z2 => ?_⟩
          show H1[B + S.1.length]? = some (vp_cell _ _)
          rw [e1, vp_cell_l]
          simp only [z2]
          rfl
        · have e2 := (hst.2.1.2 2 (ac 3, .boolean) rfl).2
          have e3 : some cA = some (ac 3) := hNm.symm.trans e2
          cases e3
          refine ⟨rfl, fun S2 z1 z2 => ?_⟩
          show H1[B + S.1.length]? = some (vp_cell _ _)
          rw [e1, vp_cell_i]
          simp only [z1]
          rfl
        · have e2 := (hst.2.1.2 3 (ac 4, .byte) rfl).2
          have e3 : some cA = some (ac 4) := hNm.symm.trans e2
          cases e3
          refine ⟨rfl, fun S2 z1 z2 => ?_⟩
          show H1[B + S.1.length]? = some (vp_cell _ _)
          rw [e1, vp_cell_i]
          simp only [z1]
          rfl
      have hz0 := hd.2.1.2.2.2.1
      have h5 := hgo _ _ _ _ h H1 locs ls ⟨jxPh_new hd.1 o1 hd.2.2.1 (fun i kd hk => ?_), jxokS_new1 hd.2.1 (by omega) (by show jxatag t < 5; omega) (by show n ≤ 100000; omega), by show H1.size = B + (S.1 ++ _).length; rw [z1, hd.2.2.1]; simp [Nat.add_assoc], jx_push_S hd.2.2.2.1 z1 o1, by show n0 ≤ (S.1 ++ _).length; simp; omega, by show m0 ≤ jxsz (S.1 ++ _); rw [jxsz_app]; omega⟩ hl (List.forall_mem_cons.mpr ⟨trivial, hs2⟩)
      · have ez : jxsz (S.1 ++ [(jxatag t, n, [])]) = jxsz S.1 + n := by
          rw [jxsz_app]; rcases jx_atag ht1 with rfl | rfl | rfl | rfl <;> simp [jxsz, jxsz1, jxatag]
        rw [List.map_cons, jx_gw (by omega)] at h5
        rw [show ((S.1 ++ [(jxatag t, n, [])], S.2) : jxS).1.length - n0 = S.1.length - n0 + 1 by show (S.1 ++ [(jxatag t, n, [])]).length - n0 = _; rw [List.length_append]; simp only [List.length_cons, List.length_nil]; omega, show jxsz ((S.1 ++ [(jxatag t, n, [])], S.2) : jxS).1 - m0 = jxsz S.1 - m0 + n by show jxsz (S.1 ++ [(jxatag t, n, [])]) - m0 = _; rw [ez]; omega] at h5
        rw [hd.2.2.1]
        exact h5
      · cases i with
        | zero =>
          cases hk
          exact hcA.2 _ (fun j => (hz0 _ j (Nat.le_refl _)).1) (fun j => (hz0 _ j (Nat.le_refl _)).2)
        | succ i => cases hk
  · cases h
theorem jx_blank {q : vw_C} {rs : List Nat} {ty : Nat → FieldType} (hrs : rs.length = q.2.2) (hty : ∀ k, k < q.2.2 → parseFieldDescriptor (q.2.1 k).2.2.1 = some (ty k))
    (hck : (List.range q.2.2).all (fun j => match rs[j]?, parseFieldDescriptor (q.2.1 j).2.2.1 with
      | some 0, some ty => decide (defaultValue ty = .int 0)
      | some 1, some ty => decide (defaultValue ty = .long 0)
      | some 2, some ty => decide (defaultValue ty = .null)
      | _, _ => false) = true) {S2 : jxS} {k : Nat} (z1 : ∀ j, S2.2.1 k j = 0) (z2 : ∀ j, S2.2.2 k j = 0) : ∀ j, j < q.2.2 → defaultValue (ty j) = vp_V ((List.range rs.length).map (fun j => jxfld B ad S2 k j (rs.getD j 0))) j := by
  intro j hj
  have h1 := List.all_eq_true.mp hck j (List.mem_range.mpr hj)
  rw [hty j hj] at h1
  have hl : j < rs.length := by omega
  have e : vp_V ((List.range rs.length).map (fun j => jxfld B ad S2 k j (rs.getD j 0))) j = jxfld B ad S2 k j (rs.getD j 0) := by
    unfold vp_V
    simp [List.getD, hl]
  rw [e]
  have e2 : rs[j]? = some (rs.getD j 0) := by simp [List.getD, hl]
  rw [e2] at h1
  split at h1
  · rename_i h2 h3
    cases h3
    have h4 : rs.getD j 0 = 0 := Option.some.inj h2
    rw [h4]
    show _ = Value.int (Int32.ofInt (S2.2.1 k j))
    rw [z1, of_decide_eq_true h1]
    rfl
  · rename_i h2 h3
    cases h3
    have h4 : rs.getD j 0 = 1 := Option.some.inj h2
    rw [h4]
    show _ = Value.long (Int64.ofInt (S2.2.2 k j))
    rw [z2, of_decide_eq_true h1]
    rfl
  · rename_i h2 h3
    cases h3
    have h4 : rs.getD j 0 = 2 := Option.some.inj h2
    rw [h4]
    exact of_decide_eq_true h1
  · cases h1
theorem jxs_new {idx : Nat} (hx : p.tables.exec = Jvm.exec) (hb : c.code = cc) (hts : ∀ w ∈ jxgoodw, w.before args s = true) (hown : s.vm.findClass (jxcn own) = some m.cls) (hst : jxst B ad ac D E s) (hdg : decode cc pc = .ok (.new idx, 3)) (h : jxnew S own idx st (fun st' S' => go (pc + 3) L st' S') = some r) (hgo : ∀ pc L st S, go pc L st S = some r → jxSim p l e R s m args below meth c Q B ad ac D nL n0 m0 pc L st S) (hle : ∀ pc L st S, go pc L st S = some r → jxle S r.2) (hRc : r.2.1.length - n0 ≤ R.cells) (hRs : jxsz r.2.1 - m0 ≤ R.slots) : jxSim p l e R s m args below meth c Q B ad ac D nL n0 m0 pc L st S := by
  unfold jxnew at h
  split at h
  · rename_i ci hci
    split at h
    · rename_i rs hrs
      cases hc : (Nat.beq ci 1001 || Nat.ble 900 S.1.length) <;> rw [hc] at h <;> simp only [cond_true, cond_false] at h
      · have hc1 : Nat.beq ci 1001 = false := by cases h8 : Nat.beq ci 1001 <;> rw [h8] at hc <;> simp_all
        have hc2 : ¬ 900 ≤ S.1.length := fun q => by rw [Nat.ble_eq_true_of_le q] at hc; simp at hc
        have hC := jxall_at jxchkC_ok hci
        unfold jxchkC at hC
        split at hC
        · cases hC
        · rename_i i hi
          rw [hc1] at hC
          simp only [cond_false] at hC
          split at hC
          · rename_i q pp rs2 hq hpp hrs2
            have : rs2 = rs := Option.some.inj (hrs2.symm.trans hrs)
            subst this
            simp only [Bool.and_eq_true] at hC
            obtain ⟨⟨⟨⟨hC1, hC2⟩, hC3⟩, hC4⟩, hC5⟩ := hC
            have hC4 := Nat.eq_of_beq_eq_true hC4
            obtain ⟨hu, hnm, ty, hty⟩ := jx_cl hq
            have hci13 : ci < 13 := (List.getElem?_eq_some_iff.mp hq).1
            intro H locs ls hd hl hs
            have hle1 := hle _ _ _ _ h
            have g1 : S.1.length + 1 ≤ r.2.1.length := by have := hle1.1; simpa using this
            have ez : jxsz (S.1 ++ [(0, ci, rs2)]) = jxsz S.1 + q.2.2 := by rw [jxsz_app]; simp [jxsz, jxsz1, hC4]
            have g2 : jxsz S.1 + q.2.2 ≤ jxsz r.2.1 := by
              have h9 : jxsz (S.1 ++ [(0, ci, rs2)]) ≤ jxsz r.2.1 := hle1.2
              omega
            have hd0 := hd.2.2.2.2
            have hKn := hst.2.1.1 ci _ hq
            refine W.newcK hx hb hown (hts _ (jxat_mem hC1)) (hts _ (jxat_mem hC2)) (hts _ (jxat_mem hC3)) rfl hdg (by omega) (by omega) hKn.2.1 rfl fun H1 kC hkC e1 z1 o1 => ?_
            have hz0 := hd.2.1.2.2.2.1
            have h5 := hgo _ _ _ _ h H1 locs ls ⟨jxPh_new hd.1 o1 hd.2.2.1 (fun i kd hk => ?_), jxokS_new1 hd.2.1 (by omega) (by show 0 < 5; omega) (by show ci ≤ 100000; omega), by show H1.size = B + (S.1 ++ _).length; rw [z1, hd.2.2.1]; simp [Nat.add_assoc], jx_push_S hd.2.2.2.1 z1 o1, by show n0 ≤ (S.1 ++ _).length; simp; omega, by show m0 ≤ jxsz (S.1 ++ _); rw [jxsz_app]; omega⟩ hl (List.forall_mem_cons.mpr ⟨trivial, hs⟩)
            · rw [List.map_cons, jx_gw (by omega)] at h5
              rw [show ((S.1 ++ [(0, ci, rs2)], S.2) : jxS).1.length - n0 = S.1.length - n0 + 1 by show (S.1 ++ [(0, ci, rs2)]).length - n0 = _; rw [List.length_append]; simp only [List.length_cons, List.length_nil]; omega, show jxsz ((S.1 ++ [(0, ci, rs2)], S.2) : jxS).1 - m0 = jxsz S.1 - m0 + q.2.2 by show jxsz (S.1 ++ [(0, ci, rs2)]) - m0 = _; rw [ez]; omega] at h5
              rw [hd.2.2.1]
              exact h5
            · cases i with
              | zero =>
                cases hk
                rw [hd.2.2.1] at e1
                exact ⟨_, hq, (u_born ty hts hu hKn hkC e1 hty).to (jx_blank hC4 hty hC5 (fun j => (hz0 _ j (Nat.le_refl _)).1) (fun j => (hz0 _ j (Nat.le_refl _)).2))⟩
              | succ i => cases hk
          · cases hC
      · cases h
    · cases h
  · cases h
end JX7
