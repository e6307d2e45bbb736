/-! grids -/
section JX8
variable {p : Program} {l : Launch} {e : Env} {R : Room} {s : State} {m : MethodId} {args : Array Value} {below : List Frame} {meth : Method} {c : Code} {Q : State → Prop}
variable {B : Nat} {ad : Nat → Nat} {ac : Nat → ClassId} {D : va_G} {E : jxE} {nL n0 m0 : Nat}
variable {cc : ByteArray} {pc own : Nat} {L : jxL} {st : List jxV} {S : jxS} {r : jxR} {go : jxG}
theorem jx_rowsz (g mm : Nat) : ∀ l : List Nat, jxsz (l.map (fun i => ((6, mm, [g, i]) : jxK))) = l.length * mm
  | [] => by simp [jxsz]
  | a :: l => by
    have := jx_rowsz g mm l
    simp only [jxsz, List.map_cons, List.sum_cons, List.length_cons] at this ⊢
    rw [this, Nat.add_mul]
    simp [jxsz1, Nat.add_comm]
theorem jx_outer (c : ClassId) (N h0 : Nat) : ∀ i : Nat, Jvm.Free.Multi.outerC c N h0 i = arrV c N (fun j => va_rf (if j < i then some (h0 + 1 + j) else none))
  | 0 => by
    show ({ cls := c, slots := Array.replicate N .null, vm := .none } : Cell) = _
    rw [arrV_new]
    refine congrArg (arrV c N) (funext fun j => ?_)
    simp [va_rf]
  | i + 1 => by
    show (Jvm.Free.Multi.outerC c N h0 i).setSlot i (.ref (h0 + 1 + i)) = _
    rw [jx_outer c N h0 i, arrV_store]
    refine congrArg (arrV c N) (funext fun j => ?_)
    by_cases e : j = i
    · subst e
      simp [updV, va_rf]
    · by_cases h : j < i
      · simp [updV, e, h, Nat.lt_succ_of_lt h]
      · simp [updV, e, h, show ¬ j < i + 1 by omega]
theorem jx_aext {c : ClassId} {n : Nat} {f f1 : Nat → Value} (h : ∀ j, j < n → f j = f1 j) : arrV c n f = arrV c n f1 := by
  unfold arrV
  congr 1
  apply Array.ext
  · simp
  · intro i h1 h2
    simp at h1
    simp [h i h1]
set_option maxHeartbeats 2000000 in
theorem jxs_newg {idx : Nat} (hx : p.tables.exec = Jvm.exec) (hb : c.code = cc) (hts : ∀ w ∈ jxgoodw, w.before args s = true) (hown : s.vm.findClass (jxcn own) = some m.cls) (hst : jxst B ad ac D E s) (hdg : decode cc pc = .ok (.multianewarray idx 2, 4)) (hcl : jxfind2 jxcl own idx = some 1001) (h : jxnewg S st (fun st' S' => go (pc + 4) L st' S') = some r) (hgo : ∀ pc L st S, go pc L st S = some r → jxSim p l e R s m args below meth c Q B ad ac D nL n0 m0 pc L st S) (hle : ∀ pc L st S, go pc L st S = some r → jxle S r.2) (hRc : r.2.1.length - n0 ≤ R.cells) (hRs : jxsz r.2.1 - m0 ≤ R.slots) : jxSim p l e R s m args below meth c Q B ad ac D nL n0 m0 pc L st S := by
  unfold jxnewg at h
  split at h
  · rename_i mm n rest
    cases ht : (Nat.ble n 100 && (Nat.ble mm 100 && Nat.ble S.1.length 700)) <;> rw [ht] at h <;> simp only [cond_true, cond_false] at h
    · cases h
    · simp only [Bool.and_eq_true] at ht
      have ht1 := Nat.le_of_ble_eq_true ht.1
      have ht2 := Nat.le_of_ble_eq_true ht.2.1
      have ht3 := Nat.le_of_ble_eq_true ht.2.2
      intro H locs ls hd hl hs
      have hs2 : ∀ v ∈ rest, jxokV v := fun v hv => hs v (List.mem_cons_of_mem _ (List.mem_cons_of_mem _ hv))
      have hin : jxin (n : Int) := ⟨by omega, by omega⟩
      have him : jxin (mm : Int) := ⟨by omega, by omega⟩
      have hN : (Int32.ofInt (n : Int)).toNatClampNeg = n := by unfold Int32.toNatClampNeg; rw [jx_ti hin]; rfl
      have hM : (Int32.ofInt (mm : Int)).toNatClampNeg = mm := by unfold Int32.toNatClampNeg; rw [jx_ti him]; rfl
      have hn0 : ¬ Int32.ofInt (n : Int) < 0 := fun q => by rw [show (0 : Int32) = Int32.ofInt 0 from rfl, jx_lt hin ⟨by omega, by omega⟩] at q; omega
      have hm0 : ¬ Int32.ofInt (mm : Int) < 0 := fun q => by rw [show (0 : Int32) = Int32.ofInt 0 from rfl, jx_lt him ⟨by omega, by omega⟩] at q; omega
      have hnm : n * mm ≤ 10000 := by
        have := Nat.mul_le_mul ht1 ht2
        omega
      have hle1 := hle _ _ _ _ h
      have ez : jxsz (S.1 ++ ((5, n, [mm]) :: (List.range n).map (fun i => (6, mm, [S.1.length, i])))) = jxsz S.1 + (n + n * mm) := by
        rw [jxsz_app]
        have := jx_rowsz S.1.length mm (List.range n)
        rw [List.length_range] at this
        have e2 : jxsz ((5, n, [mm]) :: (List.range n).map (fun i => ((6, mm, [S.1.length, i]) : jxK))) = n + jxsz ((List.range n).map (fun i => ((6, mm, [S.1.length, i]) : jxK))) := by simp [jxsz, jxsz1]
        rw [e2, this]
      have el : (S.1 ++ ((5, n, [mm]) :: (List.range n).map (fun i => (6, mm, [S.1.length, i])))).length = S.1.length + 1 + n := by simp; omega
      have g1 : S.1.length + 1 + n ≤ r.2.1.length := by have h9 := hle1.1; rw [el] at h9; exact h9
      have g2 : jxsz S.1 + (n + n * mm) ≤ jxsz r.2.1 := by have h9 := hle1.2; rw [ez] at h9; exact h9
      have hA := jxchkA_ok
      simp only [Bool.and_eq_true] at hA
      have hC := jxall_at jxchkC_ok hcl
      unfold jxchkC at hC
      split at hC
      · cases hC
      · rename_i i hi
        simp only [show Nat.beq 1001 1001 = true from rfl, cond_true] at hC
        have hd0 := hd.2.2.2.2
        intro T hT Xs
        obtain ⟨vm₁, cA, comp, -, fA, fC, hO, -, X', step⟩ := Xs.multianewarray2F hx (ty := .int) hown (hts _ (jxat_mem hC)) (hst.2.2.2.2.2.2.2.2.2.2 : (Jvm.Cond.arrayOver (.array .int)).before #[] s = true) (hts _ (jxat_mem hA.1.1.1)) (g := F0 m pc ls (.int (Int32.ofInt (mm : Int)) :: .int (Int32.ofInt (n : Int)) :: rest.map (jxg B ad))) rfl (by rw [hb]; exact hdg) rfl hn0 hm0 (by rw [hN]; omega) (by rw [hM]; simp [componentBytes]; omega) (by rw [hM]; omega) rfl rfl (by rw [hN]; omega) (by rw [hN, hM]; omega)
        rw [hN, hM] at X' step
        have e5 : some cA = some (ac 5) := fA.symm.trans (hst.2.1.2 4 (ac 5, .array .int) rfl).2
        have e1 : some comp = some (ac 1) := fC.symm.trans (hst.2.1.2 0 (ac 1, .int) rfl).2
        cases e5
        cases e1
        generalize hF : Jvm.Free.Multi.fill (T.setVm vm₁) (ac 5) (ac 1) n mm (defaultValue .int) n = F at X' step
        have hTh : (T.setVm vm₁).heap = H := hT
        obtain ⟨f1, f2, -, -⟩ := Jvm.Free.Multi.fill_facts (T.setVm vm₁) (ac 5) (ac 1) n mm (defaultValue .int) n
        rw [hF, hTh] at f1 f2
        have hold : ∀ x : Nat, x < H.size → F.heap[x]? = H[x]? := fun x hx => by
          have := Jvm.Free.Multi.fill_old (T.setVm vm₁) (ac 5) (ac 1) n mm (defaultValue .int) (a := x) (by rw [hTh]; exact hx) n
          rw [hF, hTh] at this
          exact this
        have hrow : ∀ j : Nat, j < n → F.heap[H.size + 1 + j]? = some (Jvm.Free.Multi.innerC (ac 1) mm (defaultValue .int)) := fun j hj => by
          have := Jvm.Free.Multi.fill_inner (T.setVm vm₁) (ac 5) (ac 1) n mm (defaultValue .int) n j hj
          rw [hF, hTh] at this
          exact this
        rw [jx_outer] at f2
        have hz0 := hd.2.1.2.2.2.1
        have h5 := hgo _ _ _ _ h F.heap locs ls ⟨jxPh_new hd.1 hold hd.2.2.1 (fun i kd hk => ?_), jxokS_newg hd.2.1 (by omega) (by omega), by show F.heap.size = B + (S.1 ++ _).length; rw [el, f1, hd.2.2.1]; omega, jx_push_S (n := 1 + n) hd.2.2.2.1 (by rw [f1]; omega) hold, by show n0 ≤ (S.1 ++ _).length; rw [el]; omega, by show m0 ≤ jxsz (S.1 ++ _); rw [ez]; omega⟩ hl (List.forall_mem_cons.mpr ⟨trivial, hs2⟩)
        · rw [List.map_cons, jx_gw (by omega)] at h5
          rw [show ((S.1 ++ ((5, n, [mm]) :: (List.range n).map (fun i => (6, mm, [S.1.length, i]))), S.2) : jxS).1.length - n0 = S.1.length - n0 + 1 + n by show (S.1 ++ _).length - n0 = _; rw [el]; omega, show jxsz ((S.1 ++ ((5, n, [mm]) :: (List.range n).map (fun i => (6, mm, [S.1.length, i]))), S.2) : jxS).1 - m0 = jxsz S.1 - m0 + n + n * mm by show jxsz (S.1 ++ _) - m0 = _; rw [ez]; omega] at h5
          obtain ⟨t, a1, b1⟩ := h5 F rfl X'
          refine ⟨t, step t ?_, b1⟩
          rw [hT, hd.2.2.1]
          exact a1
        · cases i with
          | zero =>
            cases hk
            show F.heap[B + (S.1.length + 0)]? = some (vp_cell _ _)
            rw [Nat.add_zero, ← hd.2.2.1, f2, vp_cell_q]
            congr 1
            refine jx_aext (fun j hj => ?_)
            rw [if_pos hj, hd.2.2.1]
          | succ i =>
            rw [List.getElem?_cons_succ, List.getElem?_map] at hk
            by_cases hin2 : i < n
            · rw [List.getElem?_range hin2] at hk
              cases hk
              show F.heap[B + (S.1.length + (i + 1))]? = some (vp_cell _ _)
              rw [show B + (S.1.length + (i + 1)) = H.size + 1 + i by rw [hd.2.2.1]; omega, hrow i hin2]
              have ei : Jvm.Free.Multi.innerC (ac 1) mm (defaultValue .int) = arrV (ac 1) mm (fun _ => .int 0) := by
                show ({ cls := ac 1, slots := Array.replicate mm (.int 0), vm := .none } : Cell) = _
                rw [arrV_new]
              rw [ei, vp_cell_i]
              congr 1
              refine jx_aext (fun j hj => ?_)
              show Value.int 0 = Value.int (Int32.ofInt (S.2.1 S.1.length (i * mm + j)))
              rw [(hz0 S.1.length (i * mm + j) (Nat.le_refl _)).1]
              rfl
            · rw [List.getElem?_eq_none (by simp; omega)] at hk
              cases hk
  · cases h
end JX8
