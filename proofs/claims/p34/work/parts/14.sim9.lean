/-! calls -/
section JX9
variable {p : Program} {l : Launch} {e : Env} {R : Room} {s : State} {m : MethodId} {args : Array Value} {below : List Frame} {meth : Method} {c : Code} {Q : State → Prop}
variable {B : Nat} {ad : Nat → Nat} {ac : Nat → ClassId} {D : va_G} {E : jxE} {nL n0 m0 : Nat}
variable {cc : ByteArray} {pc own : Nat} {L : jxL} {st : List jxV} {S : jxS} {r : jxR} {go : jxG}
def jxws (z : Nat) : List Jvm.Cond := .code (jxnm z) (jxcd z) (jxmaxl z) (jxrt z) :: jxgoodw
def jxrm (d mc ms : Nat) : Room := { frames := d, cells := mc, slots := ms, locals := 41 * d }
def jxPc (B : Nat) (ad : Nat → Nat) (ac : Nat → ClassId) (D : va_G) (E : jxE) (as : List jxV) (S : jxS) : Array Value → State → Prop :=
  va_Pc (as.map (jxg B ad)) (fun U => U.heap.size = B + S.1.length ∧ jxPh B ad ac D S U.heap ∧ jxst B ad ac D E U)
def jxQc (B : Nat) (ad : Nat → Nat) (ac : Nat → ClassId) (D : va_G) (q : jxR) : Array Value → State → Outcome → State → Prop := fun _ so oc t =>
  oc = .returned ((q.1.map (jxg B ad)).head?) ∧ t.heap.size = B + q.2.1.length ∧ jxPh B ad ac D q.2 t.heap ∧ va_F (fun x => B ≤ x) so t ∧ jxokS q.2 ∧ (∀ v ∈ q.1, jxokV v) ∧ q.1.length ≤ 1
/-- the contract of a call: it comes to what the small machine says -/
def jxMet (l : Launch) (B : Nat) (ad : Nat → Nat) (ac : Nat → ClassId) (D : va_G) (E : jxE) (d z : Nat) (as : List jxV) (S : jxS) (q : jxR) : Prop :=
  Met l (jxnm z) (jxws z) (jxrm d (q.2.1.length - S.1.length) (jxsz q.2.1 - jxsz S.1)) (jxPc B ad ac D E as S) (jxQc B ad ac D q) (q.2.1.length - S.1.length) (jxsz q.2.1 - jxsz S.1) (fun x => B ≤ x)
theorem jx_blind {as : List jxV} : FrameBlind (jxPc B ad ac D E as S) := by
  intro a U g mk h
  obtain ⟨h1, h2, h3, h4⟩ := h
  obtain ⟨h5, h6, h7⟩ := h4
  refine ⟨h1, h2, h3, h5, va_K.moved (u := U) (U := U.calling g mk a) (Vm.Alike.refl U.vm) h6, ?_⟩
  obtain ⟨⟨xs, g1, g1a⟩, g2, g3, g4, g5, g6, g7, g8, g9⟩ := h7
  have ha : U.vm.Alike (U.calling g mk a).vm := Vm.Alike.refl U.vm
  exact ⟨⟨xs, g1.moved ha, g1a⟩, g2.moved ha, fun i q hq => vk_R.same (u := U) rfl (g3 i q hq), fun i l hl => (g4 i l hl).moved ha, fun i n hn => (g5 i n hn).moved ha, g6.moved ha, g7.moved ha, fun w hw => by
    have h10 := g8 w hw
    have h11 := (List.mem_filter.mp hw).2
    cases w <;> first | (cases h11; done) | exact va_Nw.same rfl (u := U) rfl h10, g9⟩
theorem jx_pc {as : List jxV} {H : Heap} {locs : List Loc} (hst : jxst B ad ac D E s) (hd : jxdyn B ad ac D s n0 m0 S H locs) : ∀ U : State, U.heap = H → s.WarmedH U.vm → jxPc B ad ac D E as S (as.map (jxg B ad)).toArray U := by
  intro U hU hW
  refine ⟨rfl, by rw [hU]; exact hd.2.2.1, by rw [hU]; exact hd.1, by rw [hU]; have := hd.2.2.1; show B ≤ H.size; omega, va_K.moved hW.alike hst.2.1, ?_⟩
  rw [hU]
  exact jxold_warm hW (jxold_kept hst.2.2 hd.2.2.2.1.1 hd.2.2.2.1.2.1)
theorem jx_cat8 : ∀ st : List jxV, (((st.map (jxg B ad)).map fun v => v.category).sum) = jxcat st
  | [] => rfl
  | v :: st => by
    simp only [List.map_cons, List.sum_cons, jxcat]
    rw [jx_cat8 st, jxg_cat]
theorem jx_goodin (z : Nat) (h : jxchkM z = true) : GoodIn jxgoodw (jxws z) := by
  have hc : Jvm.Cond.code (jxnm z) (jxcd z) (jxmaxl z) (jxrt z) ∈ jxgoodw := by
    unfold jxchkM at h
    split at h
    · cases h
    · simp only [Bool.and_eq_true] at h
      exact jxat_mem h.1.1.1.1.1.1.1
  intro w hw
  have hm : w ∈ jxgoodw := by
    rcases List.mem_cons.mp hw with rfl | hw
    · exact hc
    · exact hw
  exact ⟨hm, good_of_word (List.mem_filter.mp hm).2⟩
/-- behind a call -/
theorem jx_back {ls : Array Slot} {q : jxR} {H : Heap} {locs : List Loc} {k1 k2 : Nat} {rest st0 : List Value} {aa : Array Value} (hd : jxdyn B ad ac D s n0 m0 S H locs) (hle : jxle S q.2)
    (hr : va_Run p l e R s m args below meth c H locs k1 k2 (q.2.1.length - S.1.length) (jxsz q.2.1 - jxsz S.1) (F0 m pc ls st0) rest (jxQc B ad ac D q aa) (fun x => B ≤ x))
    (kk : ∀ (H1 : Heap) (locs1 : List Loc), jxdyn B ad ac D s n0 m0 q.2 H1 locs1 → (∀ v ∈ q.1, jxokV v) → W p l e R s m args below meth c H1 locs1 (k1 + (q.2.1.length - S.1.length)) (k2 + (jxsz q.2.1 - jxsz S.1)) Q (F0 m (pc + 3) ls (q.1.map (jxg B ad) ++ rest))) : W p l e R s m args below meth c H locs k1 k2 Q (F0 m pc ls st0) := by
  intro T hT X
  obtain ⟨v, so, t, T1, L1, g0, X1, hL, e1, e2, ⟨hv, hz, hPh, hF, hok, hvs, hl1⟩, step⟩ := hr T hT X
  have hv2 : v = (q.1.map (jxg B ad)).head? := Outcome.returned.inj hv
  have hvl : v.toList = q.1.map (jxg B ad) := by
    rw [hv2]
    rcases q with ⟨_ | ⟨x, _ | ⟨y, l⟩⟩, S1⟩
    · rfl
    · rfl
    · exfalso
      have : (x :: y :: l).length ≤ 1 := hl1
      simp at this
  obtain ⟨hF1, hF2⟩ := hF
  rw [g0] at hF1 hF2
  obtain ⟨t2, a1, b1⟩ := kk T1.heap (locs ++ L1) ⟨by rw [e1]; exact hPh, hok, by rw [e1]; exact hz, ⟨Nat.le_trans hd.2.2.2.1.1 (by rw [e1]; exact hF1), fun x h1 h2 => by rw [e1, hF2 x (Nat.lt_of_lt_of_le h1 hd.2.2.2.1.1) h2]; exact hd.2.2.2.1.2.1 x h1 h2, fun x hx => (List.mem_append.mp hx).elim (hd.2.2.2.1.2.2 x) (hL x)⟩, Nat.le_trans hd.2.2.2.2.1 hle.1, Nat.le_trans hd.2.2.2.2.2 hle.2⟩ hvs T1 rfl X1
  refine ⟨t2, step t2 ?_, b1⟩
  rw [hvl]
  exact a1
set_option maxHeartbeats 2000000 in
/-- the call itself, of any of the three kinds -/
theorem jx_call {idx z sp d : Nat} {ls : Array Slot} {H : Heap} {locs : List Loc} {as rest : List jxV} {q : jxR} {k1 k2 : Nat} (hx : p.tables.exec = Jvm.exec) (hb : c.code = cc) (hml : c.maxLocals = nL) (hts : ∀ w ∈ jxgoodw, w.before args s = true) (hown : s.vm.findClass (jxcn own) = some m.cls) (hst : jxst B ad ac D E s) (hls : ls.size = nL) (hz : jxfind2 jxlk own idx = some z) (hz9 : z ≠ 9999)
    (hdg : decode cc pc = .ok (if sp = 0 then .invokestatic idx else if sp = 1 then .invokevirtual idx else .invokespecial idx, 3)) (hsp : jxkind z = sp) (hcat : jxcat rest ≤ 8) (hna : as.length = jxna z) (hrc : sp ≠ 0 → jxrcv S z as = true)
    (hd : jxdyn B ad ac D s n0 m0 S H locs) (hM : jxMet l B ad ac D E d z as S q) (hRf : d + 1 ≤ R.frames) (hRl : 41 * (d + 1) ≤ R.locals) (hR1 : k1 + (q.2.1.length - S.1.length) ≤ R.cells) (hR2 : k2 + (jxsz q.2.1 - jxsz S.1) ≤ R.slots) :
    va_Run p l e R s m args below meth c H locs k1 k2 (q.2.1.length - S.1.length) (jxsz q.2.1 - jxsz S.1) (F0 m pc ls ((as.map (jxg B ad)).reverse ++ rest.map (jxg B ad))) (rest.map (jxg B ad)) (jxQc B ad ac D q (as.map (jxg B ad)).toArray) (fun x => B ≤ x) := by
  have hL := jxall_at jxchkL_ok hz
  unfold jxchkL at hL
  split at hL
  · cases hL
  · rename_i i hi
    have hz9b : Nat.beq z 9999 = false := by cases h8 : Nat.beq z 9999; rfl; exact absurd (Nat.eq_of_beq_eq_true h8) hz9
    rw [hz9b] at hL
    simp only [cond_false, Bool.and_eq_true, Bool.or_eq_true, Bool.not_eq_true'] at hL
    obtain ⟨⟨hL1, hL2⟩, hL3⟩ := hL
    have hMk := jxchkM_ok (by have := Nat.le_of_ble_eq_true hL1; omega) (Nat.ne_of_beq_eq_false hL2)
    have hG := jx_goodin z hMk
    unfold jxchkM at hMk
    split at hMk
    · cases hMk
    · rename_i pa pb pcc pdd hpM
      simp only [Bool.and_eq_true, decide_eq_true_eq] at hMk
      obtain ⟨⟨⟨⟨⟨⟨⟨hc1, hc2⟩, hc3⟩, hc4⟩, hc5⟩, hc6⟩, hc7⟩, hc8⟩ := hMk
      have hc6 := Nat.le_of_ble_eq_true hc6
      have hini := hts _ (jxat_mem hc2)
      have hRm : (jxrm d (q.2.1.length - S.1.length) (jxsz q.2.1 - jxsz S.1)).frames + 1 ≤ R.frames ∧ 8 + (jxmaxl z + 11) + (jxrm d (q.2.1.length - S.1.length) (jxsz q.2.1 - jxsz S.1)).locals ≤ R.locals := ⟨hRf, by show 8 + (jxmaxl z + 11) + 41 * d ≤ R.locals; omega⟩
      have CF : CallFix p m c cc nL s args jxgoodw (jxcn own) := ⟨hx, hb, hml, hown, hts⟩
      have hpc := fun U hU hW => jx_pc (as := as) (E := E) hst hd U hU hW
      have hW8 : 2 * (F0 m pc ls ((as.map (jxg B ad)).reverse ++ rest.map (jxg B ad))).monitorRoom + ((rest.map (jxg B ad)).map fun v => v.category).sum ≤ 8 := lv_room (by rw [jx_cat8]; exact hcat)
      -- the receiver
      have hrecv : sp ≠ 0 → (bif Nat.beq (jxcls z) 1000 then (jxnm z).cls = "java/lang/String" else (vwCl[jxcls z]?).map (fun q => q.1) = some (jxnm z).cls) → ∃ (b : Nat) (as1 : List jxV), as.map (jxg B ad) = .ref b :: as1.map (jxg B ad) ∧ as.length = as1.length + 1 ∧ ∃ cell : Cell, H[b]? = some cell ∧ cell.vm.isStatics = false ∧ s.vm.findClass (jxnm z).cls = some cell.cls := by
        intro hsp0 hcls
        have hr := hrc hsp0
        unfold jxrcv at hr
        split at hr
        · rename_i r0 as1
          cases h1000 : Nat.beq (jxcls z) 1000 <;> rw [h1000] at hr hcls <;> simp only [cond_true, cond_false] at hr hcls
          · split at hr
            · rename_i ci w hS
              have hci := Nat.eq_of_beq_eq_true hr
              subst hci
              have hlt := jx_lt_of hS
              refine ⟨B + r0, as1, by rw [List.map_cons, jx_gw (by have := hd.2.1.1; omega)], rfl, ?_⟩
              obtain ⟨q2, hq2, hq3⟩ := Option.map_eq_some_iff.mp hcls
              rw [← hq3]
              exact va_recv hst.2.1 (jx_one (hd.1 r0 _ hS)) hq2 (q0 := 0) rfl
            · cases hr
          · simp only [Bool.and_eq_true] at hr
            have a1 := Nat.le_of_ble_eq_true hr.1
            have a2 := Nat.le_of_ble_eq_true hr.2
            refine ⟨ad r0, as1, by rw [List.map_cons, jx_gf a1 (by omega)], rfl, ?_⟩
            rw [hcls]
            have := vk_recv hst.2.2.2.1 (i := r0 - 1000) (by omega) (H := H) ⟨hd.2.2.2.1.1, hd.2.2.2.1.2.1, hd.2.2.2.1.2.2⟩
            rw [show 1000 + (r0 - 1000) = r0 by omega] at this
            exact this
        · cases hr
      rw [hsp] at hc7
      rcases (show sp = 0 ∨ sp = 1 ∨ 2 ≤ sp by omega) with rfl | rfl | hsp2
      · simp only [Bool.and_eq_true, decide_eq_true_eq] at hc7
        obtain ⟨hs1, hs2⟩ := hc7
        have hstat := hts _ (jxat_mem hs1)
        have hn : (parseMethodDescriptor (jxnm z).desc).map (fun d => d.parameters.length) = some as.length := by rw [hna]; exact hs2
        have hp : PreS s H (jxPc B ad ac D E as S) (as.map (jxg B ad)) := ⟨jx_blind, hpc⟩
        rcases hL3 with h3 | h3
        · exact va_runS CF hM ⟨callB_of as.length hts hG rfl rfl rfl hini (hts _ (jxat_mem h3)) ⟨hc4, hc5, hn⟩ hRm, hstat⟩ hp rfl (by simp) hls rfl hW8 hdg ⟨hR1, hR2⟩
        · exact va_runSN CF hM ⟨va_cnB as.length hts hG rfl rfl rfl (hst.2.2.2.2.2.2.2.2.2.1 _ (jxatn_mem h3)) hini ⟨hc4, hc5, hn⟩ hRm, hstat, trivial⟩ hp rfl (by simp) hls rfl hW8 hdg ⟨hR1, hR2⟩
      · simp only [Bool.and_eq_true, decide_eq_true_eq] at hc7
        obtain ⟨⟨⟨hs1, hs2⟩, hs3⟩, hs4⟩ := hc7
        obtain ⟨b, as1, ha1, ha2, hcell⟩ := hrecv (by decide) (by cases h1000 : Nat.beq (jxcls z) 1000 <;> rw [h1000] at hs4 <;> simp only [cond_true, cond_false, decide_eq_true_eq] at hs4 ⊢ <;> exact hs4)
        have hn : (parseMethodDescriptor (jxnm z).desc).map (fun d => d.parameters.length) = some as1.length := by
          cases hpd : parseMethodDescriptor (jxnm z).desc with
          | none => rw [hpd] at hs3; cases hs3
          | some dd =>
            rw [hpd] at hs3
            simp only [Option.map_some, Option.some.injEq] at hs3 ⊢
            omega
        have hp : PreV s H (jxnm z).cls b (jxPc B ad ac D E as S) (as1.map (jxg B ad)) := ⟨jx_blind, hcell, fun U hU hW => by have := hpc U hU hW; rw [ha1] at this; exact this⟩
        rw [ha1]
        rcases hL3 with h3 | h3
        · exact va_runV CF hM ⟨callB_of as1.length hts hG rfl rfl rfl hini (hts _ (jxat_mem h3)) ⟨hc4, hc5, hn⟩ hRm, hts _ (jxat_mem hs1), hts _ (jxat_mem hs2)⟩ hp rfl (by simp) hls (by simp [F0]) hW8 hdg ⟨hR1, hR2⟩
        · exact va_runVN CF hM ⟨va_cnB as1.length hts hG rfl rfl rfl (hst.2.2.2.2.2.2.2.2.2.1 _ (jxatn_mem h3)) hini ⟨hc4, hc5, hn⟩ hRm, hts _ (jxat_mem hs1), hts _ (jxat_mem hs2)⟩ hp rfl (by simp) hls (by simp [F0]) hW8 hdg ⟨hR1, hR2⟩
      · have hk2 : ∀ (P : Prop), (match sp with
            | 0 => False
            | 1 => False
            | _ => P) ↔ P := fun P => by
          split
          · omega
          · omega
          · exact Iff.rfl
        have hc7' : (((jxat pcc (.instanceMethod (jxnm z)) = true ∧ (jxnm z).name = "<init>") ∧ (parseMethodDescriptor (jxnm z).desc).map (fun d => d.parameters.length + 1) = some (jxna z)) ∧ (vwCl[jxcls z]?).map (fun q => q.1) = some (jxnm z).cls) ∧ Nat.beq (jxret z) 0 = true := by
          split at hc7
          · omega
          · omega
          · simpa only [Bool.and_eq_true, decide_eq_true_eq] using hc7
        obtain ⟨⟨⟨⟨hs1, hs2⟩, hs3⟩, hs4⟩, hs5⟩ := hc7'
        have hret : jxrt z = none := by
          unfold jxrt
          rw [Nat.eq_of_beq_eq_true hs5]
          rfl
        have h1000 : Nat.beq (jxcls z) 1000 = false := by
          cases h8 : Nat.beq (jxcls z) 1000
          · rfl
          · rw [Nat.eq_of_beq_eq_true h8] at hs4
            cases hs4
        obtain ⟨b, as1, ha1, ha2, hcell⟩ := hrecv (by omega) (by rw [h1000]; exact hs4)
        have hn : (parseMethodDescriptor (jxnm z).desc).map (fun d => d.parameters.length) = some as1.length := by
          cases hpd : parseMethodDescriptor (jxnm z).desc with
          | none => rw [hpd] at hs3; cases hs3
          | some dd =>
            rw [hpd] at hs3
            simp only [Option.map_some, Option.some.injEq] at hs3 ⊢
            omega
        have hp : PreS s H (jxPc B ad ac D E as S) (.ref b :: as1.map (jxg B ad)) := ⟨jx_blind, fun U hU hW => by have := hpc U hU hW; rw [ha1] at this; exact this⟩
        rw [ha1]
        have hws : jxws z = Jvm.Cond.code (jxnm z) (jxcd z) (jxmaxl z) none :: jxgoodw := by unfold jxws; rw [hret]
        rw [if_neg (by omega), if_neg (by omega)] at hdg
        rcases hL3 with h3 | h3
        · exact va_runI CF hM ⟨callB_of as1.length hts hG hws rfl rfl hini (hts _ (jxat_mem h3)) ⟨hc4, hc5, hn⟩ hRm, hs2, hts _ (jxat_mem hs1)⟩ hp rfl (by simp) hls (by simp [F0]) hW8 hdg ⟨hR1, hR2⟩
        · exact va_runIN CF hM ⟨va_cnB as1.length hts hG hws rfl rfl (hst.2.2.2.2.2.2.2.2.2.1 _ (jxatn_mem h3)) hini ⟨hc4, hc5, hn⟩ hRm, hs2, hts _ (jxat_mem hs1)⟩ hp rfl (by simp) hls (by simp [F0]) hW8 hdg ⟨hR1, hR2⟩
end JX9
