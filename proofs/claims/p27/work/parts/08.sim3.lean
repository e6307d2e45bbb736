/-! locals -/
def jxlv (B : Nat) (ad : Nat → Nat) (L : jxL) : List (Nat × Value) := L.zipIdx.filterMap (fun q => q.1.map (fun x => (q.2, jxg B ad x)))
def jxLs (B : Nat) (ad : Nat → Nat) (ls : Array Slot) (nL : Nat) (L : jxL) : Prop := ls.size = nL ∧ lv_wf ls ∧ L.length = nL ∧ ∀ (i : Nat) (x : jxV), L[i]? = some (some x) → ls[i]? = some (.val (jxg B ad x)) ∧ jxokV x
theorem jxlv_mem {B : Nat} {ad : Nat → Nat} {L : jxL} {i : Nat} {v : Value} : (i, v) ∈ jxlv B ad L ↔ ∃ x, L[i]? = some (some x) ∧ v = jxg B ad x := by
  unfold jxlv
  rw [List.mem_filterMap]
  constructor
  · rintro ⟨⟨o, j⟩, hq, h⟩
    rw [List.mem_zipIdx_iff_getElem?] at hq
    cases o with
    | none => simp at h
    | some x =>
      simp at h
      obtain ⟨rfl, rfl⟩ := h
      exact ⟨x, hq, rfl⟩
  · rintro ⟨x, hx, rfl⟩
    exact ⟨(some x, i), List.mem_zipIdx_iff_getElem?.mpr hx, rfl⟩
theorem jxLs_has {B : Nat} {ad : Nat → Nat} {ls : Array Slot} {nL : Nat} {L : jxL} (h : jxLs B ad ls nL L) : lv_has ls nL (jxlv B ad L) := by
  refine ⟨h.1, h.2.1, fun q hq => ?_⟩
  obtain ⟨i, v⟩ := q
  obtain ⟨x, hx, rfl⟩ := jxlv_mem.mp hq
  exact (h.2.2.2 i x hx).1
theorem jxset_len : ∀ (L : jxL) (i : Nat) (x : jxV), (jxset L i x).length = L.length
  | [], _, _ => rfl
  | _ :: L, 0, _ => rfl
  | a :: L, i + 1, x => by simp [jxset, jxset_len L i x]
theorem jxset_get : ∀ (L : jxL) (i : Nat) (x : jxV) (j : Nat) (y : jxV), i < L.length → (jxset L i x)[j]? = some (some y) → (j = i ∧ y = x) ∨ (j ≠ i ∧ L[j]? = some (some y) ∧ ¬ (j + 1 = i ∧ jxlong y = true))
  | [], _, _, _, _, h, _ => by simp at h
  | a :: L, 0, x, j, y, _, h => by
    cases j with
    | zero => simp [jxset] at h; exact Or.inl ⟨rfl, h.symm⟩
    | succ j => simp [jxset] at h; exact Or.inr ⟨by omega, by simpa using h, by omega⟩
  | a :: L, i + 1, x, j, y, hl, h => by
    cases j with
    | zero =>
      simp only [jxset, List.getElem?_cons_zero, Option.some.injEq] at h
      refine Or.inr ⟨by omega, ?_⟩
      split at h
      · cases h
      · rename_i hn
        subst h
        refine ⟨rfl, fun hq => ?_⟩
        obtain ⟨h1, h2⟩ := hq
        have : i = 0 := by omega
        subst this
        unfold jxlong at h2
        split at h2
        · rename_i z
          exact hn _ rfl rfl
        · cases h2
    | succ j =>
      simp only [jxset, List.getElem?_cons_succ] at h
      rcases jxset_get L i x j y (by simpa using hl) h with ⟨h1, h2⟩ | ⟨h1, h2, h3⟩
      · exact Or.inl ⟨by omega, h2⟩
      · exact Or.inr ⟨by omega, by simpa using h2, fun q => h3 ⟨by omega, q.2⟩⟩
theorem jxsetn_len : ∀ (L : jxL) (i : Nat), (jxsetn L i).length = L.length
  | [], _ => rfl
  | _ :: L, 0 => rfl
  | a :: L, i + 1 => by simp [jxsetn, jxsetn_len L i]
theorem jxsetn_get : ∀ (L : jxL) (i j : Nat) (y : jxV), (jxsetn L i)[j]? = some (some y) → j ≠ i ∧ L[j]? = some (some y)
  | [], _, _, _, h => by simp [jxsetn] at h
  | a :: L, 0, j, y, h => by
    cases j with
    | zero => simp [jxsetn] at h
    | succ j => simp [jxsetn] at h; exact ⟨by omega, by simpa using h⟩
  | a :: L, i + 1, j, y, h => by
    cases j with
    | zero => simp [jxsetn] at h; exact ⟨by omega, by simpa using h⟩
    | succ j =>
      simp only [jxsetn, List.getElem?_cons_succ] at h
      obtain ⟨h1, h2⟩ := jxsetn_get L i j y h
      exact ⟨by omega, by simpa using h2⟩
theorem jxg_cat (B : Nat) (ad : Nat → Nat) (x : jxV) : (jxg B ad x).category = bif jxlong x then 2 else 1 := by
  rcases x with a | a | a | ⟨g, i⟩
  · rfl
  · rfl
  · show (if a = 4000 then jxsio (ad 4000) else _ : Value).category = 1
    by_cases h : a = 4000
    · rw [if_pos h]
      cases ad 4000 <;> rfl
    · rw [if_neg h]
      rfl
  · rfl
theorem jxLs_set {B : Nat} {ad : Nat → Nat} {ls ls1 : Array Slot} {nL : Nat} {L : jxL} {i : Nat} {x : jxV} (h : jxLs B ad ls nL L) (hi : i < nL) (hx : jxokV x)
    (h1 : lv_has ls1 nL ((i, jxg B ad x) :: (jxlv B ad L).filter (fun q => !(q.1 == i) && !(q.1 + 1 == i && q.2.category == 2)))) : jxLs B ad ls1 nL (jxset L i x) := by
  refine ⟨h1.1, h1.2.1, (jxset_len L i x).trans h.2.2.1, fun j y hj => ?_⟩
  rcases jxset_get L i x j y (by rw [h.2.2.1]; exact hi) hj with ⟨rfl, rfl⟩ | ⟨g1, g2, g3⟩
  · exact ⟨h1.2.2 (j, jxg B ad y) List.mem_cons_self, hx⟩
  · refine ⟨h1.2.2 (j, jxg B ad y) (List.mem_cons_of_mem _ (List.mem_filter.mpr ⟨jxlv_mem.mpr ⟨y, g2, rfl⟩, ?_⟩)), (h.2.2.2 j y g2).2⟩
    rw [jxg_cat]
    cases hl : jxlong y
    · simp [g1]
    · rw [hl] at g3
      have : ¬ j + 1 = i := fun q => g3 ⟨q, rfl⟩
      simp [g1, this]
theorem jxLs_setl {B : Nat} {ad : Nat → Nat} {ls ls1 : Array Slot} {nL : Nat} {L : jxL} {i : Nat} {x : jxV} (h : jxLs B ad ls nL L) (hi : i + 1 < nL) (hx : jxokV x)
    (h1 : lv_has ls1 nL ((i, jxg B ad x) :: (jxlv B ad L).filter (fun q => !(q.1 == i) && (!(q.1 == i + 1) && !(q.1 + 1 == i && q.2.category == 2))))) : jxLs B ad ls1 nL (jxsetl L i x) := by
  refine ⟨h1.1, h1.2.1, ?_, fun j y hj => ?_⟩
  · unfold jxsetl
    rw [jxsetn_len, jxset_len]
    exact h.2.2.1
  · obtain ⟨g0, g4⟩ := jxsetn_get _ _ _ _ hj
    rcases jxset_get L i x j y (by rw [h.2.2.1]; omega) g4 with ⟨rfl, rfl⟩ | ⟨g1, g2, g3⟩
    · exact ⟨h1.2.2 (j, jxg B ad y) List.mem_cons_self, hx⟩
    · refine ⟨h1.2.2 (j, jxg B ad y) (List.mem_cons_of_mem _ (List.mem_filter.mpr ⟨jxlv_mem.mpr ⟨y, g2, rfl⟩, ?_⟩)), (h.2.2.2 j y g2).2⟩
      rw [jxg_cat]
      cases hl : jxlong y
      · simp [g1, g0]
      · rw [hl] at g3
        have : ¬ j + 1 = i := fun q => g3 ⟨q, rfl⟩
        simp [g1, g0, this]
theorem jxkeepF_len (ks : List Nat) : ∀ (n : Nat) (L : jxL), (jxkeepF ks n L).length = L.length
  | _, [] => rfl
  | n, _ :: L => by simp [jxkeepF, jxkeepF_len ks (n + 1) L]
theorem jxkeepF_get (ks : List Nat) : ∀ (n : Nat) (L : jxL) (j : Nat) (y : jxV), (jxkeepF ks n L)[j]? = some (some y) → L[j]? = some (some y)
  | _, [], _, _, h => by simp [jxkeepF] at h
  | n, a :: L, j, y, h => by
    cases j with
    | zero =>
      simp only [jxkeepF, List.getElem?_cons_zero, Option.some.injEq] at h
      cases hc : ks.contains n <;> rw [hc] at h
      · cases h
      · simpa using h
    | succ j =>
      simp only [jxkeepF, List.getElem?_cons_succ] at h
      simpa using jxkeepF_get ks (n + 1) L j y h
theorem jxLs_keep {B : Nat} {ad : Nat → Nat} {ls : Array Slot} {nL : Nat} {L : jxL} (ks : List Nat) (h : jxLs B ad ls nL L) : jxLs B ad ls nL (jxkeep ks L) :=
  ⟨h.1, h.2.1, (jxkeepF_len ks 0 L).trans h.2.2.1, fun i x hx => h.2.2.2 i x (jxkeepF_get ks 0 L i x hx)⟩
/-! what stands still: the classes, the script, the texts, the static rows, the links of the nest -/
def jxtyv : List FieldType := [.int, .long, .boolean, .byte, .array .int]
def jxtys (ac : Nat → ClassId) : List (ClassId × FieldType) := [(ac 1, .int), (ac 2, .long), (ac 3, .boolean), (ac 4, .byte), (ac 5, .array .int)]
def jxlens : List Nat := jxtext.map List.length
def jxbyts : List (List Int32) := jxtext.map (fun l => l.map Int32.ofInt)
def jxold (B : Nat) (ad : Nat → Nat) (E : jxE) (U : State) (H : Heap) : Prop :=
  (∃ xs : Nat → Int32, va_X (ad 3000) E.1 xs U H ∧ ad 3000 < B ∧ ad 3000 < H.size ∧ E.1 ≤ 100000 ∧ ∀ j, E.2 j = (xs j).toInt) ∧
  vk_S 16 jxlens jxbyts (fun i => ad (1000 + i)) (fun i => ad (2000 + i)) (fun q => B ≤ q) U H ∧
  (∀ (i : Nat) (q : String × Nat × String), jxstrs[i]? = some q → vk_R q.1 q.2.1 q.2.2 (ad (1000 + i)) U) ∧
  (∀ (i : Nat) (l : List Int), jxstat[i]? = some l → va_T .int (ad (3001 + i)) l.length (fun j => .int (Int32.ofInt (l.getD j 0))) (fun q => B ≤ q) U H) ∧
  (∀ (i : Nat) (n : String), (["LEAST", "MOST", "WITHOUT"] : List String)[i]? = some n → va_Z "CardClub$RuleBook" n "[I" (.ref (ad (3001 + i))) (fun q => B ≤ q) U H) ∧
  va_Z "java/lang/String" "COMPACT_STRINGS" "Z" (.int 1) (fun q => B ≤ q) U H ∧
  va_Z "jdk/internal/util/Preconditions" "SIOOBE_FORMATTER" "Ljava/util/function/BiFunction;" (jxsio (ad 4000)) (fun q => B ≤ q) U H ∧
  (∀ w ∈ jxnest, va_Nw w U) ∧ (Jvm.Cond.arrayOver (.array .int)).before #[] U = true
def jxst (B : Nat) (ad : Nat → Nat) (ac : Nat → ClassId) (D : va_G) (E : jxE) (U : State) : Prop := B ≤ U.heap.size ∧ va_K D vwCl (jxtys ac) U ∧ jxold B ad E U U.heap
def jxdyn (B : Nat) (ad : Nat → Nat) (ac : Nat → ClassId) (D : va_G) (s : State) (n0 m0 : Nat) (S : jxS) (H : Heap) (locs : List Loc) : Prop :=
  jxPh B ad ac D S H ∧ jxokS S ∧ H.size = B + S.1.length ∧ va_S (fun q => B ≤ q) s.heap H locs ∧ n0 ≤ S.1.length ∧ m0 ≤ jxsz S.1
theorem jx_ao {A : Array Value} {u : State} (h : (Jvm.Cond.arrayOver (.array .int)).before A u = true) : ∃ comp c k, u.vm.findClass (FieldType.array .int).toString = some comp ∧ (u.vm.classes.findIdx? fun (x : Class) => match x.kind with | .array component _ => component == comp | _ => false) = some c ∧ u.vm.classes[c]? = some k ∧ k.kind = .array comp (.array .int) ∧ u.vm.findClass ("[" ++ (FieldType.array .int).toString) = some c := by
  unfold Jvm.Cond.before at h
  simp only [Jvm.Cond.holds, Jvm.Cond.value, beq_iff_eq] at h
  cases hc : u.vm.findClass (FieldType.array .int).toString with
  | none => simp [hc] at h
  | some comp =>
    simp only [hc, Option.bind_some, Option.bind_eq_some_iff, Option.map_eq_some_iff] at h
    obtain ⟨c, hi, k, hk, hb⟩ := h
    obtain ⟨hlt, hp, -⟩ := Array.findIdx?_eq_some_iff_getElem.mp hi
    have hkk : u.vm.classes[c] = k := (Array.getElem?_eq_some_iff.mp hk).2
    rw [hkk] at hp
    cases hkind : k.kind with
    | array component ty =>
      rw [hkind] at hb hp
      simp at hb hp
      exact ⟨comp, c, k, rfl, hi, hk, by rw [hkind, hp, hb.1], hb.2⟩
    | _ => rw [hkind] at hb; simp at hb
theorem jx_over {args A' : Array Value} {s U : State} (hW : s.WarmedH U.vm) (h : (Jvm.Cond.arrayOver (.array .int)).before args s = true) : (Jvm.Cond.arrayOver (.array .int)).before A' U = true := by
  have hvm := hW.alike
  obtain ⟨comp, c, k, h1, h2, h3, h4, h5⟩ := jx_ao h
  obtain ⟨k', hk', he⟩ := hvm.2.2 _ _ h3
  have hi : (U.vm.classes.findIdx? fun (x : Class) => match x.kind with | .array component _ => component == comp | _ => false) = some c := by
    refine (va_idx_bare U.vm comp).symm.trans ?_
    first | rw [hvm.bare_eq] | rw [← hvm.bare_eq]
    exact (va_idx_bare _ comp).trans h2
  have hkind : k'.kind = .array comp (.array .int) := by rw [he]; exact h4
  have f1 : U.vm.findClass (FieldType.array .int).toString = some comp := by rw [hvm.findClass]; exact h1
  have f2 : U.vm.findClass ("[" ++ (FieldType.array .int).toString) = some c := by rw [hvm.findClass]; exact h5
  unfold Jvm.Cond.before Jvm.Cond.holds
  simp only [Jvm.Cond.value]
  rw [f1, Option.bind_some]
  refine (congrArg (fun o : Option Nat => (o.bind (fun c => (U.vm.classes[c]?).map fun (k : Class) => match k.kind with | .array _ ty => decide (ty = FieldType.array .int) && decide (U.vm.findClass ("[" ++ (FieldType.array .int).toString) = some c) | _ => false) == some true)) hi).trans ?_
  simp [hk', hkind, f2]
theorem jxold_warm {B : Nat} {ad : Nat → Nat} {E : jxE} {s U : State} {H : Heap} (hW : s.WarmedH U.vm) (h : jxold B ad E s H) : jxold B ad E U H := by
  obtain ⟨⟨xs, h1, h1a⟩, h2, h3, h4, h5, h6, h7, h8, h9⟩ := h
  have ha := hW.alike
  refine ⟨⟨xs, h1.moved ha, h1a⟩, h2.moved ha, fun i q hq => (h3 i q hq).warm hW, fun i l hl => (h4 i l hl).moved ha, fun i n hn => (h5 i n hn).moved ha, h6.moved ha, h7.moved ha, fun w hw => ?_, jx_over hW h9⟩
  have h10 := h8 w hw
  have h11 := (List.mem_filter.mp hw).2
  cases w <;> first | (cases h11; done) | exact va_Nw.warmM hW h10
theorem jxold_kept {B : Nat} {ad : Nat → Nat} {E : jxE} {U : State} {H H1 : Heap} (h : jxold B ad E U H) (hz : H.size ≤ H1.size) (hq : ∀ a : Nat, a < H.size → ¬ B ≤ a → H1[a]? = H[a]?) : jxold B ad E U H1 := by
  obtain ⟨⟨xs, h1, h1a, h1b, h1c⟩, h2, h3, h4, h5, h6, h7, h8, h9⟩ := h
  exact ⟨⟨xs, h1.kept (hq _ h1b (by omega)), h1a, by omega, h1c⟩, h2.kept hq, h3, fun i l hl => (h4 i l hl).kept hq, fun i n hn => (h5 i n hn).kept hq, h6.kept hq, h7.kept hq, h8, h9⟩
