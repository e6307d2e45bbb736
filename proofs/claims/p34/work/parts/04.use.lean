/-! A step asks what comes behind it at most once, and a call at most once: so a run has one value, and the value of all runs obeys the step's own equation. -/
def jxsz1 : jxK → Nat
  | (0, _, rs) => rs.length
  | (_, n, _) => n
def jxsz (K : List jxK) : Nat := (K.map jxsz1).sum
/-- cells come, none go -/
def jxle (S S1 : jxS) : Prop := S.1.length ≤ S1.1.length ∧ jxsz S.1 ≤ jxsz S1.1
theorem jxle_rf (S : jxS) : jxle S S := ⟨Nat.le_refl _, Nat.le_refl _⟩
theorem jxle_tr {S S1 S2 : jxS} (h : jxle S S1) (h1 : jxle S1 S2) : jxle S S2 := ⟨Nat.le_trans h.1 h1.1, Nat.le_trans h.2 h1.2⟩
theorem jxle_same {S : jxS} {x : (Nat → Nat → Int) × (Nat → Nat → Int)} : jxle S (S.1, x) := ⟨Nat.le_refl _, Nat.le_refl _⟩
theorem jxsz_app (K K1 : List jxK) : jxsz (K ++ K1) = jxsz K + jxsz K1 := by simp [jxsz]
theorem jxle_app {S : jxS} {K : List jxK} {x : (Nat → Nat → Int) × (Nat → Nat → Int)} : jxle S (S.1 ++ K, x) := ⟨by simp, by simp [jxsz_app]⟩
theorem jxsz_set {K : List jxK} {r : Nat} {k k1 : jxK} (h : K[r]? = some k) (hk : jxsz1 k1 = jxsz1 k) : jxsz (K.set r k1) = jxsz K := by
  induction K generalizing r with
  | nil => simp at h
  | cons a K ih =>
    cases r with
    | zero => simp at h; subst h; simp [jxsz, hk]
    | succ r =>
      simp at h
      have := ih h
      simp only [jxsz, List.set_cons_succ, List.map_cons, List.sum_cons] at this ⊢
      omega
theorem jxle_set {S : jxS} {r : Nat} {k k1 : jxK} {x : (Nat → Nat → Int) × (Nat → Nat → Int)} (h : S.1[r]? = some k) (hk : jxsz1 k1 = jxsz1 k) : jxle S (S.1.set r k1, x) := ⟨by simp, by rw [show jxsz (S.1.set r k1) = jxsz S.1 from jxsz_set h hk]; exact Nat.le_refl _⟩
def jxUse (Sa : jxS) (F : jxD → jxG → Option jxR) : Prop := ∀ (C : jxD) (go : jxG) (r : jxR), F C go = some r →
  ((∀ C' go', F C' go' = some r) ∧ jxle Sa r.2) ∨
  (∃ pc L st S, go pc L st S = some r ∧ jxle Sa S ∧ ∀ C' go', go' pc L st S = some r → F C' go' = some r) ∨
  (∃ z as S0 q pc L st S, C z as S0 = some q ∧ go pc L st S = some r ∧ (jxle S0 q.2 → jxle Sa S) ∧ ∀ C' go', C' z as S0 = some q → go' pc L st S = some r → F C' go' = some r)
theorem jxU_none {Sa : jxS} : jxUse Sa (fun _ _ => none) := fun _ _ _ h => by cases h
theorem jxU_val {Sa : jxS} (v : Option jxR) (hv : ∀ r, v = some r → r.2 = Sa) : jxUse Sa (fun _ _ => v) := fun _ _ r h => Or.inl ⟨fun _ _ => h, by rw [hv r h]; exact jxle_rf _⟩
theorem jxU_go {Sa : jxS} (pc : Nat) (L : jxL) (st : List jxV) (S : jxS) (hS : jxle Sa S) : jxUse Sa (fun _ go => go pc L st S) := fun _ _ _ h => Or.inr (Or.inl ⟨pc, L, st, S, h, hS, fun _ _ h => h⟩)
theorem jxU_ite {Sa : jxS} {c : Prop} [Decidable c] {F1 F2 : jxD → jxG → Option jxR} (h1 : jxUse Sa F1) (h2 : jxUse Sa F2) : jxUse Sa (fun C go => if c then F1 C go else F2 C go) := by
  by_cases hc : c
  · simp only [hc, if_true]; exact h1
  · simp only [hc, if_false]; exact h2
theorem jxU_cond {Sa : jxS} {c : Bool} {F1 F2 : jxD → jxG → Option jxR} (h1 : jxUse Sa F1) (h2 : jxUse Sa F2) : jxUse Sa (fun C go => bif c then F1 C go else F2 C go) := by
  cases c
  · exact h2
  · exact h1
theorem jxU_p1 {Sa : jxS} {st : List jxV} {F : Int → List jxV → jxD → jxG → Option jxR} (h : ∀ a r, jxUse Sa (F a r)) : jxUse Sa (fun C go => jxp1 st (fun a r => F a r C go)) := by
  unfold jxp1; split
  · exact h _ _
  · exact jxU_none
theorem jxU_p2 {Sa : jxS} {st : List jxV} {F : Int → Int → List jxV → jxD → jxG → Option jxR} (h : ∀ a b r, jxUse Sa (F a b r)) : jxUse Sa (fun C go => jxp2 st (fun a b r => F a b r C go)) := by
  unfold jxp2; split
  · exact h _ _ _
  · exact jxU_none
theorem jxU_p1l {Sa : jxS} {st : List jxV} {F : Int → List jxV → jxD → jxG → Option jxR} (h : ∀ a r, jxUse Sa (F a r)) : jxUse Sa (fun C go => jxp1l st (fun a r => F a r C go)) := by
  unfold jxp1l; split
  · exact h _ _
  · exact jxU_none
theorem jxU_p2l {Sa : jxS} {st : List jxV} {F : Int → Int → List jxV → jxD → jxG → Option jxR} (h : ∀ a b r, jxUse Sa (F a b r)) : jxUse Sa (fun C go => jxp2l st (fun a b r => F a b r C go)) := by
  unfold jxp2l; split
  · exact h _ _ _
  · exact jxU_none
theorem jxU_psl {Sa : jxS} {st : List jxV} {F : Int → Int → List jxV → jxD → jxG → Option jxR} (h : ∀ a b r, jxUse Sa (F a b r)) : jxUse Sa (fun C go => jxpsl st (fun a b r => F a b r C go)) := by
  unfold jxpsl; split
  · exact h _ _ _
  · exact jxU_none
theorem jxU_lki {Sa : jxS} {L : jxL} {k : Nat} {F : jxV → jxD → jxG → Option jxR} (h : ∀ a, jxUse Sa (F a)) : jxUse Sa (fun C go => jxlki L k (fun a => F a C go)) := by
  unfold jxlki; split
  · exact h _
  · exact jxU_none
theorem jxU_lkl {Sa : jxS} {L : jxL} {k : Nat} {F : jxV → jxD → jxG → Option jxR} (h : ∀ a, jxUse Sa (F a)) : jxUse Sa (fun C go => jxlkl L k (fun a => F a C go)) := by
  unfold jxlkl; split
  · exact h _
  · exact jxU_none
theorem jxU_lka {Sa : jxS} {L : jxL} {k : Nat} {F : jxV → jxD → jxG → Option jxR} (h : ∀ a, jxUse Sa (F a)) : jxUse Sa (fun C go => jxlka L k (fun a => F a C go)) := by
  unfold jxlka; split
  · exact jxU_cond (h _) jxU_none
  · exact jxU_none
theorem jxU_tg {Sa : jxS} {pc : Nat} {off : Int} {F : Nat → jxD → jxG → Option jxR} (h : ∀ t, jxUse Sa (F t)) : jxUse Sa (fun C go => jxtg pc off (fun t => F t C go)) := by
  unfold jxtg; split
  · exact h _
  · exact jxU_none
theorem jxU_br {Sa : jxS} {c : Jvm.ClassFile.Cond} {a b : Int} {F1 F2 : jxD → jxG → Option jxR} (h1 : jxUse Sa F1) (h2 : jxUse Sa F2) : jxUse Sa (fun C go => jxbr c a b (F1 C go) (F2 C go)) := by
  cases c <;> simp only [jxbr] <;> first | exact jxU_ite h1 h2 | exact jxU_ite h2 h1
theorem jxU_sw {Sa : jxS} {a : Int} {F : Int → jxD → jxG → Option jxR} (h : ∀ t, jxUse Sa (F t)) : ∀ (os : List Int) (lo : Int), jxUse Sa (fun C go => jxsw a (fun o => F o C go) lo os)
  | [], _ => jxU_none
  | o :: os, lo => by
    simp only [jxsw]
    exact jxU_ite (h o) (jxU_sw h os (lo + 1))
theorem jxU_get {S : jxS} {own idx : Nat} {st : List jxV} {F : List jxV → jxD → jxG → Option jxR} (h : ∀ a, jxUse S (F a)) : jxUse S (fun C go => jxget S own idx st (fun a => F a C go)) := by
  unfold jxget
  split
  · split
    · refine jxU_cond (jxU_cond (jxU_cond (h _) (h _)) jxU_none) ?_
      split
      · refine jxU_cond ?_ jxU_none
        split <;> first | exact h _ | exact jxU_none
      · exact jxU_none
    · exact jxU_none
  · exact jxU_none
theorem jxU_put {S : jxS} {y own idx : Nat} {st : List jxV} {F : List jxV → jxS → jxD → jxG → Option jxR} (h : ∀ a b, jxle S b → jxUse S (F a b)) : jxUse S (fun C go => jxput S y own idx st (fun a b => F a b C go)) := by
  unfold jxput
  split
  · split
    · refine jxU_cond jxU_none ?_
      split
      · rename_i hS
        refine jxU_cond ?_ jxU_none
        split
        · split
          · exact h _ _ jxle_same
          · exact jxU_ite (h _ _ jxle_same) jxU_none
          · exact jxU_none
        · split
          · exact h _ _ jxle_same
          · exact jxU_none
        · split
          · exact jxU_cond jxU_none (h _ _ (jxle_set hS (by simp [jxsz1])))
          · exact jxU_none
        · exact jxU_none
      · exact jxU_none
    · exact jxU_none
  · exact jxU_none
theorem jxU_ald {E : jxE} {S : jxS} {tg : Nat → Bool} {st : List jxV} {F : Int → List jxV → jxD → jxG → Option jxR} (h : ∀ a b, jxUse S (F a b)) : jxUse S (fun C go => jxald E S tg st (fun a b => F a b C go)) := by
  unfold jxald
  split
  · split
    · exact jxU_cond (jxU_ite (h _ _) jxU_none) jxU_none
    · split
      · exact jxU_cond (jxU_cond (jxU_ite (h _ _) jxU_none) jxU_none) jxU_none
      · exact jxU_none
  · split
    · exact jxU_cond (jxU_ite (jxU_ite (h _ _) jxU_none) jxU_none) jxU_none
    · exact jxU_none
  · exact jxU_none
theorem jxU_aldl {S : jxS} {st : List jxV} {F : Int → List jxV → jxD → jxG → Option jxR} (h : ∀ a b, jxUse S (F a b)) : jxUse S (fun C go => jxaldl S st (fun a b => F a b C go)) := by
  unfold jxaldl
  split
  · split
    · exact jxU_ite (h _ _) jxU_none
    · exact jxU_none
  · exact jxU_none
theorem jxU_alda {S : jxS} {st : List jxV} {F : List jxV → jxD → jxG → Option jxR} (h : ∀ a, jxUse S (F a)) : jxUse S (fun C go => jxalda S st (fun a => F a C go)) := by
  unfold jxalda
  split
  · split
    · exact jxU_ite (h _) jxU_none
    · exact jxU_none
  · exact jxU_none
theorem jxU_ast {S : jxS} {st : List jxV} {F : List jxV → jxS → jxD → jxG → Option jxR} (h : ∀ a b, jxle S b → jxUse S (F a b)) : jxUse S (fun C go => jxast S st (fun a b => F a b C go)) := by
  unfold jxast
  split
  · split
    · exact jxU_ite (h _ _ jxle_same) jxU_none
    · exact jxU_none
  · split
    · exact jxU_ite (jxU_ite (h _ _ jxle_same) jxU_none) jxU_none
    · exact jxU_none
  · exact jxU_none
theorem jxU_bst {S : jxS} {st : List jxV} {F : List jxV → jxS → jxD → jxG → Option jxR} (h : ∀ a b, jxle S b → jxUse S (F a b)) : jxUse S (fun C go => jxbst S st (fun a b => F a b C go)) := by
  unfold jxbst
  split
  · split
    · exact jxU_ite (jxU_ite (h _ _ jxle_same) jxU_none) jxU_none
    · exact jxU_ite (jxU_ite (h _ _ jxle_same) jxU_none) jxU_none
    · exact jxU_none
  · exact jxU_none
theorem jxU_lst {S : jxS} {st : List jxV} {F : List jxV → jxS → jxD → jxG → Option jxR} (h : ∀ a b, jxle S b → jxUse S (F a b)) : jxUse S (fun C go => jxlst S st (fun a b => F a b C go)) := by
  unfold jxlst
  split
  · split
    · exact jxU_ite (h _ _ jxle_same) jxU_none
    · exact jxU_none
  · exact jxU_none
theorem jxU_alen {E : jxE} {S : jxS} {st : List jxV} {F : Int → List jxV → jxD → jxG → Option jxR} (h : ∀ a b, jxUse S (F a b)) : jxUse S (fun C go => jxalen E S st (fun a b => F a b C go)) := by
  unfold jxalen
  split
  · split
    · exact jxU_cond jxU_none (h _ _)
    · split
      · exact jxU_cond (h _ _) jxU_none
      · exact jxU_none
  · exact jxU_none
theorem jxU_newa {S : jxS} {t : Nat} {st : List jxV} {F : List jxV → jxS → jxD → jxG → Option jxR} (h : ∀ a b, jxle S b → jxUse S (F a b)) : jxUse S (fun C go => jxnewa S t st (fun a b => F a b C go)) := by
  unfold jxnewa
  split
  · exact jxU_cond (h _ _ jxle_app) jxU_none
  · exact jxU_none
theorem jxU_newg {S : jxS} {st : List jxV} {F : List jxV → jxS → jxD → jxG → Option jxR} (h : ∀ a b, jxle S b → jxUse S (F a b)) : jxUse S (fun C go => jxnewg S st (fun a b => F a b C go)) := by
  unfold jxnewg
  split
  · exact jxU_cond (h _ _ jxle_app) jxU_none
  · exact jxU_none
theorem jxU_new {S : jxS} {own idx : Nat} {st : List jxV} {F : List jxV → jxS → jxD → jxG → Option jxR} (h : ∀ a b, jxle S b → jxUse S (F a b)) : jxUse S (fun C go => jxnew S own idx st (fun a b => F a b C go)) := by
  unfold jxnew
  split
  · split
    · exact jxU_cond jxU_none (h _ _ jxle_app)
    · exact jxU_none
  · exact jxU_none
theorem jxU_inv {S : jxS} {own idx sp : Nat} {st : List jxV} {pc : Nat} {L : jxL} : jxUse S (fun C go => jxinv C S own idx sp st (fun st' S' => go pc L st' S')) := by
  unfold jxinv
  split
  · rename_i z hz
    refine jxU_cond (jxU_cond ?_ jxU_none) (jxU_cond (jxU_cond ?_ ?_) jxU_none)
    · split
      · exact jxU_cond jxU_none (jxU_go _ _ _ _ (jxle_rf _))
      · exact jxU_none
    · intro C go r h
      unfold jxbN at h
      dsimp only at h
      split at h
      · rename_i S1 hC
        refine Or.inr (Or.inr ⟨_, _, _, _, _, _, _, _, hC, h, id, fun C' go' h1 h2 => ?_⟩)
        unfold jxbN
        dsimp only
        rw [h1]
        exact h2
      · cases h
    · split
      · intro C go r h
        unfold jxbV at h
        dsimp only at h
        split at h
        · rename_i sh1 a b hC
          cases hs : jxsame sh1 S.1
          · rw [hs] at h; cases h
          rw [hs] at h
          refine Or.inr (Or.inr ⟨_, _, _, _, _, _, _, _, hC, h, fun _ => jxle_same, fun C' go' h1 h2 => ?_⟩)
          unfold jxbV
          dsimp only
          rw [h1]
          dsimp only
          rw [hs]
          exact h2
        · cases h
      · intro C go r h
        unfold jxbJ at h
        dsimp only at h
        split at h
        · rename_i v sh1 a b hC
          cases hs : jxsame sh1 S.1
          · rw [hs] at h; cases h
          rw [hs] at h
          refine Or.inr (Or.inr ⟨_, _, _, _, _, _, _, _, hC, h, fun _ => jxle_same, fun C' go' h1 h2 => ?_⟩)
          unfold jxbJ
          dsimp only
          rw [h1]
          dsimp only
          rw [hs]
          exact h2
        · cases h
      · intro C go r h
        unfold jxbI at h
        dsimp only at h
        split at h
        · rename_i v sh1 a b hC
          cases hs : jxsame sh1 S.1
          · rw [hs] at h; cases h
          rw [hs] at h
          refine Or.inr (Or.inr ⟨_, _, _, _, _, _, _, _, hC, h, fun _ => jxle_same, fun C' go' h1 h2 => ?_⟩)
          unfold jxbI
          dsimp only
          rw [h1]
          dsimp only
          rw [hs]
          exact h2
        · cases h
  · exact jxU_none
set_option maxHeartbeats 4000000 in
theorem jxuse (E : jxE) (y own : Nat) (i : Instr) (pc : Nat) (L : jxL) (st : List jxV) (S : jxS) : jxUse S (fun C go => jxins E C y own i go pc L st S) := by
  unfold jxins
  cases i
  case aload_n =>
    dsimp only
    refine jxU_lka (fun _ => ?_); exact jxU_go _ _ _ _ (by first | exact jxle_rf _ | assumption)
  case aload =>
    dsimp only
    refine jxU_lka (fun _ => ?_); exact jxU_go _ _ _ _ (by first | exact jxle_rf _ | assumption)
  case iload_n =>
    dsimp only
    refine jxU_lki (fun _ => ?_); exact jxU_go _ _ _ _ (by first | exact jxle_rf _ | assumption)
  case iload =>
    dsimp only
    refine jxU_lki (fun _ => ?_); exact jxU_go _ _ _ _ (by first | exact jxle_rf _ | assumption)
  case lload_n =>
    dsimp only
    refine jxU_lkl (fun _ => ?_); exact jxU_go _ _ _ _ (by first | exact jxle_rf _ | assumption)
  case lload =>
    dsimp only
    refine jxU_lkl (fun _ => ?_); exact jxU_go _ _ _ _ (by first | exact jxle_rf _ | assumption)
  case istore_n =>
    dsimp only
    refine jxU_p1 (fun _ _ => ?_); refine jxU_cond ?_ jxU_none; exact jxU_go _ _ _ _ (by first | exact jxle_rf _ | assumption)
  case istore =>
    dsimp only
    refine jxU_p1 (fun _ _ => ?_); refine jxU_cond ?_ jxU_none; exact jxU_go _ _ _ _ (by first | exact jxle_rf _ | assumption)
  case lstore_n =>
    dsimp only
    refine jxU_p1l (fun _ _ => ?_); refine jxU_cond ?_ jxU_none; exact jxU_go _ _ _ _ (by first | exact jxle_rf _ | assumption)
  case lstore =>
    dsimp only
    refine jxU_p1l (fun _ _ => ?_); refine jxU_cond ?_ jxU_none; exact jxU_go _ _ _ _ (by first | exact jxle_rf _ | assumption)
  case astore_n =>
    dsimp only
    split <;> first | exact jxU_none | (refine jxU_cond ?_ jxU_none; exact jxU_go _ _ _ _ (by first | exact jxle_rf _ | assumption))
  case iconst =>
    dsimp only
    exact jxU_go _ _ _ _ (by first | exact jxle_rf _ | assumption)
  case bipush =>
    dsimp only
    exact jxU_go _ _ _ _ (by first | exact jxle_rf _ | assumption)
  case sipush =>
    dsimp only
    exact jxU_go _ _ _ _ (by first | exact jxle_rf _ | assumption)
  case lconst =>
    dsimp only
    exact jxU_go _ _ _ _ (by first | exact jxle_rf _ | assumption)
  case ldc =>
    dsimp only
    split <;> first | exact jxU_none | exact jxU_go _ _ _ _ (by first | exact jxle_rf _ | assumption)
  case ldc_w =>
    dsimp only
    split <;> first | exact jxU_none | exact jxU_go _ _ _ _ (by first | exact jxle_rf _ | assumption)
  case ldc2_w =>
    dsimp only
    split <;> first | exact jxU_none | exact jxU_go _ _ _ _ (by first | exact jxle_rf _ | assumption)
  case getstatic =>
    dsimp only
    split <;> first | exact jxU_none | exact jxU_go _ _ _ _ (by first | exact jxle_rf _ | assumption)
  case iinc =>
    dsimp only
    split <;> first | exact jxU_none | exact jxU_go _ _ _ _ (by first | exact jxle_rf _ | assumption)
  case iadd =>
    dsimp only
    refine jxU_p2 (fun _ _ _ => ?_); exact jxU_go _ _ _ _ (by first | exact jxle_rf _ | assumption)
  case isub =>
    dsimp only
    refine jxU_p2 (fun _ _ _ => ?_); exact jxU_go _ _ _ _ (by first | exact jxle_rf _ | assumption)
  case imul =>
    dsimp only
    refine jxU_p2 (fun _ _ _ => ?_); exact jxU_go _ _ _ _ (by first | exact jxle_rf _ | assumption)
  case iand =>
    dsimp only
    refine jxU_p2 (fun _ _ _ => ?_); exact jxU_go _ _ _ _ (by first | exact jxle_rf _ | assumption)
  case ior =>
    dsimp only
    refine jxU_p2 (fun _ _ _ => ?_); exact jxU_go _ _ _ _ (by first | exact jxle_rf _ | assumption)
  case ixor =>
    dsimp only
    refine jxU_p2 (fun _ _ _ => ?_); exact jxU_go _ _ _ _ (by first | exact jxle_rf _ | assumption)
  case ishl =>
    dsimp only
    refine jxU_p2 (fun _ _ _ => ?_); exact jxU_go _ _ _ _ (by first | exact jxle_rf _ | assumption)
  case ishr =>
    dsimp only
    refine jxU_p2 (fun _ _ _ => ?_); exact jxU_go _ _ _ _ (by first | exact jxle_rf _ | assumption)
  case iushr =>
    dsimp only
    refine jxU_p2 (fun _ _ _ => ?_); exact jxU_go _ _ _ _ (by first | exact jxle_rf _ | assumption)
  case idiv =>
    dsimp only
    refine jxU_p2 (fun _ _ _ => ?_); refine jxU_ite jxU_none ?_; exact jxU_go _ _ _ _ (by first | exact jxle_rf _ | assumption)
  case irem =>
    dsimp only
    refine jxU_p2 (fun _ _ _ => ?_); refine jxU_ite jxU_none ?_; exact jxU_go _ _ _ _ (by first | exact jxle_rf _ | assumption)
  case ineg =>
    dsimp only
    refine jxU_p1 (fun _ _ => ?_); exact jxU_go _ _ _ _ (by first | exact jxle_rf _ | assumption)
  case i2l =>
    dsimp only
    refine jxU_p1 (fun _ _ => ?_); exact jxU_go _ _ _ _ (by first | exact jxle_rf _ | assumption)
  case i2b =>
    dsimp only
    refine jxU_p1 (fun _ _ => ?_); exact jxU_go _ _ _ _ (by first | exact jxle_rf _ | assumption)
  case i2c =>
    dsimp only
    refine jxU_p1 (fun _ _ => ?_); exact jxU_go _ _ _ _ (by first | exact jxle_rf _ | assumption)
  case l2i =>
    dsimp only
    refine jxU_p1l (fun _ _ => ?_); exact jxU_go _ _ _ _ (by first | exact jxle_rf _ | assumption)
  case ladd =>
    dsimp only
    refine jxU_p2l (fun _ _ _ => ?_); exact jxU_go _ _ _ _ (by first | exact jxle_rf _ | assumption)
  case lsub =>
    dsimp only
    refine jxU_p2l (fun _ _ _ => ?_); exact jxU_go _ _ _ _ (by first | exact jxle_rf _ | assumption)
  case lmul =>
    dsimp only
    refine jxU_p2l (fun _ _ _ => ?_); exact jxU_go _ _ _ _ (by first | exact jxle_rf _ | assumption)
  case land =>
    dsimp only
    refine jxU_p2l (fun _ _ _ => ?_); exact jxU_go _ _ _ _ (by first | exact jxle_rf _ | assumption)
  case lor =>
    dsimp only
    refine jxU_p2l (fun _ _ _ => ?_); exact jxU_go _ _ _ _ (by first | exact jxle_rf _ | assumption)
  case lcmp =>
    dsimp only
    refine jxU_p2l (fun _ _ _ => ?_); exact jxU_go _ _ _ _ (by first | exact jxle_rf _ | assumption)
  case lshl =>
    dsimp only
    refine jxU_psl (fun _ _ _ => ?_); exact jxU_go _ _ _ _ (by first | exact jxle_rf _ | assumption)
  case lshr =>
    dsimp only
    refine jxU_psl (fun _ _ _ => ?_); exact jxU_go _ _ _ _ (by first | exact jxle_rf _ | assumption)
  case ifCond =>
    dsimp only
    refine jxU_p1 (fun _ _ => ?_); refine jxU_tg (fun _ => ?_); refine jxU_br ?_ ?_ <;> exact jxU_go _ _ _ _ (by first | exact jxle_rf _ | assumption)
  case if_icmp =>
    dsimp only
    refine jxU_p2 (fun _ _ _ => ?_); refine jxU_tg (fun _ => ?_); refine jxU_br ?_ ?_ <;> exact jxU_go _ _ _ _ (by first | exact jxle_rf _ | assumption)
  case goto =>
    dsimp only
    refine jxU_tg (fun _ => ?_); exact jxU_go _ _ _ _ (by first | exact jxle_rf _ | assumption)
  case tableswitch =>
    dsimp only
    refine jxU_p1 (fun _ _ => ?_)
    refine jxU_ite ?_ ?_
    · refine jxU_tg (fun _ => ?_); exact jxU_go _ _ _ _ (by first | exact jxle_rf _ | assumption)
    · refine jxU_sw (fun _ => ?_) _ _
      refine jxU_tg (fun _ => ?_); exact jxU_go _ _ _ _ (by first | exact jxle_rf _ | assumption)
  case dup =>
    dsimp only
    split <;> first | exact jxU_none | (refine jxU_cond jxU_none ?_; exact jxU_go _ _ _ _ (by first | exact jxle_rf _ | assumption))
  case pop =>
    dsimp only
    split <;> first | exact jxU_none | (refine jxU_cond jxU_none ?_; exact jxU_go _ _ _ _ (by first | exact jxle_rf _ | assumption))
  case dup_x1 =>
    dsimp only
    split <;> first | exact jxU_none | (refine jxU_cond jxU_none ?_; exact jxU_go _ _ _ _ (by first | exact jxle_rf _ | assumption))
  case dup2 =>
    dsimp only
    split <;> first | exact jxU_none | (refine jxU_cond jxU_none ?_; exact jxU_go _ _ _ _ (by first | exact jxle_rf _ | assumption))
  case getfield =>
    dsimp only
    refine jxU_get (fun _ => ?_); exact jxU_go _ _ _ _ (by first | exact jxle_rf _ | assumption)
  case putfield =>
    dsimp only
    refine jxU_put (fun _ _ h9 => ?_); exact jxU_go _ _ _ _ (by first | exact jxle_rf _ | assumption)
  case iaload =>
    dsimp only
    refine jxU_ald (fun _ _ => ?_); exact jxU_go _ _ _ _ (by first | exact jxle_rf _ | assumption)
  case baload =>
    dsimp only
    refine jxU_ald (fun _ _ => ?_); exact jxU_go _ _ _ _ (by first | exact jxle_rf _ | assumption)
  case laload =>
    dsimp only
    refine jxU_aldl (fun _ _ => ?_); exact jxU_go _ _ _ _ (by first | exact jxle_rf _ | assumption)
  case aaload =>
    dsimp only
    refine jxU_alda (fun _ => ?_); exact jxU_go _ _ _ _ (by first | exact jxle_rf _ | assumption)
  case iastore =>
    dsimp only
    refine jxU_ast (fun _ _ h9 => ?_); exact jxU_go _ _ _ _ (by first | exact jxle_rf _ | assumption)
  case bastore =>
    dsimp only
    refine jxU_bst (fun _ _ h9 => ?_); exact jxU_go _ _ _ _ (by first | exact jxle_rf _ | assumption)
  case lastore =>
    dsimp only
    refine jxU_lst (fun _ _ h9 => ?_); exact jxU_go _ _ _ _ (by first | exact jxle_rf _ | assumption)
  case arraylength =>
    dsimp only
    refine jxU_alen (fun _ _ => ?_); exact jxU_go _ _ _ _ (by first | exact jxle_rf _ | assumption)
  case newarray =>
    dsimp only
    refine jxU_newa (fun _ _ h9 => ?_); exact jxU_go _ _ _ _ (by first | exact jxle_rf _ | assumption)
  case new =>
    dsimp only
    refine jxU_new (fun _ _ h9 => ?_); exact jxU_go _ _ _ _ (by first | exact jxle_rf _ | assumption)
  case multianewarray =>
    dsimp only
    refine jxU_cond ?_ jxU_none
    refine jxU_newg (fun _ _ h9 => ?_); exact jxU_go _ _ _ _ (by first | exact jxle_rf _ | assumption)
  case invokestatic =>
    dsimp only
    exact jxU_inv
  case invokevirtual =>
    dsimp only
    exact jxU_inv
  case invokespecial =>
    dsimp only
    exact jxU_inv
  case ireturn =>
    dsimp only
    refine jxU_val _ (fun r hr => ?_)
    unfold jxreti at hr
    repeat' split at hr
    all_goals first | (cases hr; rfl) | (cases hr; done) | (simp [cond] at hr; done) | (revert hr; cases (Nat.beq (jxret y) 5) <;> simp <;> intro hr <;> rw [← hr]) | (revert hr; cases (Nat.beq (jxret y) 0) <;> simp <;> intro hr <;> rw [← hr])
  case lreturn =>
    dsimp only
    refine jxU_val _ (fun r hr => ?_)
    skip
    repeat' split at hr
    all_goals first | (cases hr; rfl) | (cases hr; done) | (simp [cond] at hr; done) | (revert hr; cases (Nat.beq (jxret y) 5) <;> simp <;> intro hr <;> rw [← hr]) | (revert hr; cases (Nat.beq (jxret y) 0) <;> simp <;> intro hr <;> rw [← hr])
  case return_ =>
    dsimp only
    refine jxU_val _ (fun r hr => ?_)
    skip
    repeat' split at hr
    all_goals first | (cases hr; rfl) | (cases hr; done) | (simp [cond] at hr; done) | (revert hr; cases (Nat.beq (jxret y) 5) <;> simp <;> intro hr <;> rw [← hr]) | (revert hr; cases (Nat.beq (jxret y) 0) <;> simp <;> intro hr <;> rw [← hr])
  all_goals exact jxU_none
theorem jxuse_step (E : jxE) (y : Nat) (pc : Nat) (L : jxL) (st : List jxV) (S : jxS) : jxUse S (fun C go => jxstep E C y (jxgo y go) pc L st S) := by
  unfold jxstep
  cases h : jxcode y pc with
  | none => exact jxU_none
  | some q =>
    obtain ⟨i, n⟩ := q
    dsimp only
    intro C go r hr
    rcases jxuse E y (jxown y) i pc L st S C (jxgo y go) r hr with ⟨h, hz⟩ | ⟨p2, L2, st2, S2, h1, hz, h2⟩ | ⟨z, as, S0, q, p2, L2, st2, S2, h0, h1, hz, h2⟩
    · exact Or.inl ⟨fun C' go' => h C' (jxgo y go'), hz⟩
    · exact Or.inr (Or.inl ⟨_, _, _, _, h1, hz, fun C' go' h' => h2 C' (jxgo y go') h'⟩)
    · exact Or.inr (Or.inr ⟨z, as, S0, q, _, _, _, _, h0, h1, hz, fun C' go' h0' h' => h2 C' (jxgo y go') h0' h'⟩)
/-- more steps, or calls that say more: the same end -/
theorem jxrun_mono {E : jxE} {C C' : jxD} {y : Nat} (hC : ∀ z as S r, C z as S = some r → C' z as S = some r) : ∀ (f g : Nat), f ≤ g → ∀ pc L st S r, jxrun E C y f pc L st S = some r → jxrun E C' y g pc L st S = some r := by
  intro f
  induction f with
  | zero => intro g _ pc L st S r h; cases h
  | succ f ih =>
    intro g hg pc L st S r h
    obtain ⟨g, rfl⟩ : ∃ g', g = g' + 1 := ⟨g - 1, by omega⟩
    have ih' := ih g (by omega)
    rcases jxuse_step E y pc L st S C (jxrun E C y f) r h with ⟨h, hz⟩ | ⟨p2, L2, st2, S2, h1, hz, h2⟩ | ⟨z, as, S0, q, p2, L2, st2, S2, h0, h1, hz, h2⟩
    · exact h C' (jxrun E C' y g)
    · exact h2 C' (jxrun E C' y g) (ih' _ _ _ _ _ h1)
    · exact h2 C' (jxrun E C' y g) (hC _ _ _ _ h0) (ih' _ _ _ _ _ h1)
theorem jxlim_of {E : jxE} {C : jxD} {y f pc : Nat} {L : jxL} {st : List jxV} {S : jxS} {r : jxR} (h : jxrun E C y f pc L st S = some r) : jxlim (jxrun E C y) pc L st S = some r := by
  have he : ∃ f r, jxrun E C y f pc L st S = some r := ⟨f, r, h⟩
  unfold jxlim
  rw [dif_pos he]
  have h2 := Classical.choose_spec (Classical.choose_spec he)
  generalize Classical.choose (Classical.choose_spec he) = r2 at h2 ⊢
  generalize Classical.choose he = f2 at h2
  have a := jxrun_mono (C' := C) (fun _ _ _ _ h => h) f (max f f2) (Nat.le_max_left _ _) _ _ _ _ _ h
  have b := jxrun_mono (C' := C) (fun _ _ _ _ h => h) f2 (max f f2) (Nat.le_max_right _ _) _ _ _ _ _ h2
  exact (b.symm.trans a)
theorem jxlim_ex {E : jxE} {C : jxD} {y pc : Nat} {L : jxL} {st : List jxV} {S : jxS} {r : jxR} (h : jxlim (jxrun E C y) pc L st S = some r) : ∃ f, jxrun E C y f pc L st S = some r := by
  unfold jxlim at h
  split at h
  · rename_i he
    have h2 := Classical.choose_spec (Classical.choose_spec he)
    exact ⟨_, h2.trans h⟩
  · cases h
/-- the step's own equation -/
theorem jxlim_eq (E : jxE) (C : jxD) (y pc : Nat) (L : jxL) (st : List jxV) (S : jxS) : jxlim (jxrun E C y) pc L st S = jxstep E C y (jxgo y (jxlim (jxrun E C y))) pc L st S := by
  apply Option.ext
  intro r
  constructor
  · intro h
    obtain ⟨f, hf⟩ := jxlim_ex h
    cases f with
    | zero => cases hf
    | succ f =>
      rcases jxuse_step E y pc L st S C (jxrun E C y f) r hf with ⟨h, hz⟩ | ⟨p2, L2, st2, S2, h1, hz, h2⟩ | ⟨z, as, S0, q, p2, L2, st2, S2, h0, h1, hz, h2⟩
      · exact h C _
      · exact h2 C _ (jxlim_of h1)
      · exact h2 C _ h0 (jxlim_of h1)
  · intro h
    rcases jxuse_step E y pc L st S C (jxlim (jxrun E C y)) r h with ⟨h, hz⟩ | ⟨p2, L2, st2, S2, h1, hz, h2⟩ | ⟨z, as, S0, q, p2, L2, st2, S2, h0, h1, hz, h2⟩
    · exact jxlim_of (f := 1) (h C _)
    · obtain ⟨f, hf⟩ := jxlim_ex h1
      exact jxlim_of (f := f + 1) (h2 C _ hf)
    · obtain ⟨f, hf⟩ := jxlim_ex h1
      exact jxlim_of (f := f + 1) (h2 C _ h0 hf)
/-- many steps at once, up to the cut places -/
def jxcutgo (y : Nat) (leaf rec : jxG) : jxG := fun pc L st S => match jxfind2 jxmask y pc with
  | none => rec pc L st S
  | some ks => leaf pc (jxkeep ks L) st S
def jxit (E : jxE) (C : jxD) (y : Nat) (leaf : jxG) : Nat → jxG
  | 0 => leaf
  | n + 1 => jxstep E C y (jxcutgo y leaf (jxit E C y leaf n))
theorem jxX_it (E : jxE) (d y : Nat) : ∀ (n : Nat) (pc : Nat) (L : jxL) (st : List jxV) (S : jxS), jxX E d y pc L st S = jxit E (jxC E d) y (jxX E d y) n pc L st S := by
  intro n
  induction n with
  | zero => intro pc L st S; rfl
  | succ n ih =>
    intro pc L st S
    show jxX E d y pc L st S = jxstep E (jxC E d) y (jxcutgo y (jxX E d y) (jxit E (jxC E d) y (jxX E d y) n)) pc L st S
    have e : jxcutgo y (jxX E d y) (jxit E (jxC E d) y (jxX E d y) n) = jxgo y (jxX E d y) := by
      funext pc L st S
      unfold jxcutgo jxgo
      cases h : jxfind2 jxmask y pc with
      | none => dsimp only; rw [← ih]
      | some ks => rfl
    rw [e]
    exact jxlim_eq E (jxC E d) y pc L st S
theorem jxC_X (E : jxE) (d y : Nat) (as : List jxV) (S : jxS) : jxC E (d + 1) y as S = jxX E d y 0 (jxent y as) [] S := rfl
/-- what counting finds holds -/
theorem jxcf_C (E : jxE) (f : Nat) : ∀ (d y : Nat) (as : List jxV) (S : jxS) (r : jxR), jxcf E f d y as S = some r → jxC E d y as S = some r := by
  intro d
  induction d with
  | zero => intro y as S r h; cases h
  | succ d ih =>
    intro y as S r h
    exact jxlim_of (f := f) (jxrun_mono (fun z as S r h => ih z as S r h) f f (Nat.le_refl _) _ _ _ _ _ h)
theorem jxC_mono (E : jxE) : ∀ (d e : Nat), d ≤ e → ∀ (y : Nat) (as : List jxV) (S : jxS) (r : jxR), jxC E d y as S = some r → jxC E e y as S = some r := by
  intro d
  induction d with
  | zero => intro e _ y as S r h; cases h
  | succ d ih =>
    intro e he y as S r h
    obtain ⟨e, rfl⟩ : ∃ e', e = e' + 1 := ⟨e - 1, by omega⟩
    obtain ⟨f, hf⟩ := jxlim_ex h
    exact jxlim_of (f := f) (jxrun_mono (fun z as S r h => ih e (by omega) z as S r h) f f (Nat.le_refl _) _ _ _ _ _ hf)
/-- cells come, none go: of a run, of a call -/
theorem jxrun_le {E : jxE} {C : jxD} {y : Nat} (hC : ∀ z as S r, C z as S = some r → jxle S r.2) : ∀ (f pc : Nat) (L : jxL) (st : List jxV) (S : jxS) (r : jxR), jxrun E C y f pc L st S = some r → jxle S r.2 := by
  intro f
  induction f with
  | zero => intro pc L st S r h; cases h
  | succ f ih =>
    intro pc L st S r h
    rcases jxuse_step E y pc L st S C (jxrun E C y f) r h with ⟨h, hz⟩ | ⟨p2, L2, st2, S2, h1, hz, h2⟩ | ⟨z, as, S0, q, p2, L2, st2, S2, h0, h1, hz, h2⟩
    · exact hz
    · exact jxle_tr hz (ih _ _ _ _ _ h1)
    · exact jxle_tr (hz (hC _ _ _ _ h0)) (ih _ _ _ _ _ h1)
theorem jxC_le (E : jxE) : ∀ (d y : Nat) (as : List jxV) (S : jxS) (r : jxR), jxC E d y as S = some r → jxle S r.2 := by
  intro d
  induction d with
  | zero => intro y as S r h; cases h
  | succ d ih =>
    intro y as S r h
    obtain ⟨f, hf⟩ := jxlim_ex h
    exact jxrun_le (fun z as S r h => ih z as S r h) f _ _ _ _ _ hf
/-! a run that never reads the script comes to the same with every script -/
def jxE0 : jxE := (100001, fun _ => 0)
theorem jxfix_E {r t n : Nat} {f : Nat → Int} (h : jxfix jxE0 r = some (t, n, f)) (hn : Nat.ble n 100000 = true) (E : jxE) : jxfix E r = some (t, n, f) := by
  unfold jxfix at h ⊢
  cases h2 : Nat.ble 2000 r <;> rw [h2] at h <;> simp only [cond_true, cond_false] at h ⊢
  · cases h
  cases h3 : Nat.ble 3000 r <;> rw [h3] at h <;> simp only [cond_true, cond_false] at h ⊢
  · exact h
  cases h4 : Nat.beq r 3000 <;> rw [h4] at h <;> simp only [cond_true, cond_false] at h ⊢
  · exact h
  · cases h
    cases hn
theorem jxald_E {S : jxS} {tg : Nat → Bool} {st : List jxV} {k : Int → List jxV → Option jxR} {r : jxR} (h : jxald jxE0 S tg st k = some r) (E : jxE) : jxald E S tg st k = some r := by
  unfold jxald at h ⊢
  split at h
  · split at h
    · exact h
    · split at h
      · rename_i t n f hf
        cases hn : Nat.ble n 100000
        · rw [hn] at h
          cases ht : tg t <;> rw [ht] at h <;> cases h
        · rw [jxfix_E hf hn E]
          exact h
      · cases h
  · exact h
  · cases h
theorem jxalen_E {S : jxS} {st : List jxV} {k : Int → List jxV → Option jxR} {r : jxR} (h : jxalen jxE0 S st k = some r) (E : jxE) : jxalen E S st k = some r := by
  unfold jxalen at h ⊢
  split at h
  · split at h
    · exact h
    · split at h
      · rename_i t n f hf
        cases hn : Nat.ble n 100000
        · rw [hn] at h
          cases h
        · rw [jxfix_E hf hn E]
          exact h
      · cases h
  · cases h
theorem jxins_E {C : jxD} {y own : Nat} {i : Instr} {go : jxG} {pc : Nat} {L : jxL} {st : List jxV} {S : jxS} {r : jxR} (h : jxins jxE0 C y own i go pc L st S = some r) (E : jxE) : jxins E C y own i go pc L st S = some r := by
  cases i
  case iaload =>
    have h1 : jxald jxE0 S (fun t => Nat.beq t 1) st (fun v r => go (pc + 1) L (.inl v :: r) S) = some r := h
    exact jxald_E h1 E
  case baload =>
    have h1 : jxald jxE0 S (fun t => Nat.beq t 3 || Nat.beq t 4) st (fun v r => go (pc + 1) L (.inl v :: r) S) = some r := h
    exact jxald_E h1 E
  case arraylength =>
    have h1 : jxalen jxE0 S st (fun v r => go (pc + 1) L (.inl v :: r) S) = some r := h
    exact jxalen_E h1 E
  all_goals exact h
theorem jxrun_E {C C2 : jxD} {y : Nat} (hC : ∀ z as S r, C z as S = some r → C2 z as S = some r) (E : jxE) : ∀ (f pc : Nat) (L : jxL) (st : List jxV) (S : jxS) (r : jxR), jxrun jxE0 C y f pc L st S = some r → jxrun E C2 y f pc L st S = some r := by
  intro f
  induction f with
  | zero => intro pc L st S r h; cases h
  | succ f ih =>
    intro pc L st S r h
    have h3 : jxstep E C y (jxgo y (jxrun jxE0 C y f)) pc L st S = some r := by
      have h3 : jxstep jxE0 C y (jxgo y (jxrun jxE0 C y f)) pc L st S = some r := h
      unfold jxstep at h3 ⊢
      split at h3
      · cases h3
      · exact jxins_E h3 E
    rcases jxuse_step E y pc L st S C (jxrun jxE0 C y f) r h3 with ⟨h, hz⟩ | ⟨p2, L2, st2, S2, h1, hz, h2⟩ | ⟨z, as, S0, q, p2, L2, st2, S2, h0, h1, hz, h2⟩
    · exact h C2 (jxrun E C2 y f)
    · exact h2 C2 (jxrun E C2 y f) (ih _ _ _ _ _ h1)
    · exact h2 C2 (jxrun E C2 y f) (hC _ _ _ _ h0) (ih _ _ _ _ _ h1)
theorem jxcf_E (f : Nat) (E : jxE) : ∀ (d y : Nat) (as : List jxV) (S : jxS) (r : jxR), jxcf jxE0 f d y as S = some r → jxC E d y as S = some r := by
  intro d
  induction d with
  | zero => intro y as S r h; cases h
  | succ d ih =>
    intro y as S r h
    exact jxlim_of (f := f) (jxrun_E (fun z as S r h => ih z as S r h) E f _ _ _ _ _ h)
