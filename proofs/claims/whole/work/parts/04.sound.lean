/-! the pure machine's steps are the machine's: relations -/
def xV (B b : Nat) : Value → Value
  | .ref i => .ref (B + i)
  | .float _ => .ref b
  | v => v
def xA (B : Nat) : vp_A → vp_A
  | (n, .inr (.inr (.inr (.inr f)))) => (n, .inr (.inr (.inr (.inr (fun j => (f j).map (fun i => B + i))))))
  | (n, .inl f) => (n, .inl f)
  | a => a
def xE (cT : ClassId × ClassId) (B b : Nat) : pE → va_E
  | .inl (k, a) => .inl (bif Nat.beq k 0 then cT.1 else cT.2, xA B a)
  | .inr (ci, fs) => .inr (ci, fs.map (xV B b))
def xW (cT : ClassId × ClassId) (B b : Nat) (w : pW) : va_W := w.mapIdx (fun i c => (B + i, xE cT B b c))
theorem xW_get (cT : ClassId × ClassId) (B b : Nat) (w : pW) (i : Nat) : (xW cT B b w)[i]? = (w[i]?).map (fun c => (B + i, xE cT B b c)) := by
  simp [xW]
theorem xW_at {cT : ClassId × ClassId} {B b : Nat} {w : pW} {i : Nat} {c : pE} (h : w[i]? = some c) : (xW cT B b w)[i]? = some (B + i, xE cT B b c) := by
  rw [xW_get, h]; rfl
theorem xW_set (cT : ClassId × ClassId) (B b : Nat) (w : pW) (i : Nat) (c : pE) : (xW cT B b w).set i (B + i, xE cT B b c) = xW cT B b (w.set i c) := by
  apply List.ext_getElem?
  intro k
  rw [xW_get, List.getElem?_set, List.getElem?_set, xW_get]
  have hl : (xW cT B b w).length = w.length := by simp [xW]
  rw [hl]
  by_cases h : i = k
  · subst h
    by_cases h2 : i < w.length
    · simp [h2]
    · simp [h2]
  · simp [h]
theorem xW_app (cT : ClassId × ClassId) (B b : Nat) (w : pW) (c : pE) : xW cT B b w ++ [(B + w.length, xE cT B b c)] = xW cT B b (w ++ [c]) := by
  simp [xW, List.mapIdx_append]
theorem xW_D (cT : ClassId × ClassId) (B b : Nat) (w : pW) : va_D (fun q => B ≤ q) (xW cT B b w) := by
  refine ⟨fun i j p q hi hj h => ?_, fun k q hk => ?_⟩
  · rw [xW_get] at hi hj
    obtain ⟨a, ha, rfl⟩ := Option.map_eq_some_iff.mp hi
    obtain ⟨a', ha', rfl⟩ := Option.map_eq_some_iff.mp hj
    simp only at h
    omega
  · rw [xW_get] at hk
    obtain ⟨a, ha, rfl⟩ := Option.map_eq_some_iff.mp hk
    exact Nat.le_add_right _ _
theorem wsl_set {w : pW} {i : Nat} {c c' : pE} (h : w[i]? = some c) (hc : csz c' = csz c) : wsl (w.set i c') = wsl w := by
  unfold wsl
  congr 1
  apply List.ext_getElem?
  intro k
  rw [List.getElem?_map, List.getElem?_map, List.getElem?_set]
  by_cases hk : i = k
  · subst hk
    rw [h]
    by_cases h2 : i < w.length
    · simp [h2, hc]
    · rw [List.getElem?_eq_none (by omega)] at h; cases h
  · simp [hk]
theorem wsl_app (w : pW) (c : pE) : wsl (w ++ [c]) = wsl w + csz c := by simp [wsl]
theorem okv_x {B b : Nat} {ty : FieldType} {v : Value} (h : okv ty v = true) : narrow ty (xV B b v) = xV B b v ∧ fits ty (xV B b v) = true := by
  cases ty <;> cases v <;> first | (simp [okv] at h; done) | (simp [xV, narrow, fits]; done) | skip
  simp only [okv, Bool.or_eq_true, beq_iff_eq] at h
  rcases h with rfl | rfl
  · exact ⟨(by decide : narrow .boolean (.int 0) = .int 0), (by decide : fits .boolean (.int 0) = true)⟩
  · exact ⟨(by decide : narrow .boolean (.int 1) = .int 1), (by decide : fits .boolean (.int 1) = true)⟩
/-! locals -/
def xL (B b nL : Nat) (L : pL) (ls : Array Slot) : Prop := L.length = nL ∧ ls.size = nL ∧ lv_wf ls ∧ ∀ (i : Nat) (v : Value), L[i]? = some (some v) → ls[i]? = some (.val (xV B b v))
theorem xV_cat (B b : Nat) {v : Value} : (xV B b v).category = v.category := by cases v <;> rfl
theorem pkill_len (i : Nat) (L : pL) : (pkill i L).length = L.length := by
  unfold pkill
  cases i with
  | zero => rfl
  | succ j =>
    simp only
    split
    · rename_i v _
      cases h : Nat.beq v.category 2 <;> simp
    · rfl
theorem pset_len (i : Nat) (v : Value) (L : pL) : (pset i v L).length = L.length := by
  unfold pset
  cases h : Nat.beq v.category 2 <;> simp [pkill_len]
theorem pkill_get {i j : Nat} {L : pL} {u : Value} (h : (pkill i L)[j]? = some (some u)) : L[j]? = some (some u) ∧ ¬ (j + 1 = i ∧ u.category = 2) := by
  unfold pkill at h
  cases i with
  | zero => exact ⟨h, fun q => by omega⟩
  | succ k =>
    simp only at h
    split at h
    · rename_i v hv
      cases hc : Nat.beq v.category 2 with
      | true =>
        rw [hc] at h
        simp only [cond_true] at h
        rw [List.getElem?_set] at h
        by_cases hk : k = j
        · subst hk
          simp only [if_true] at h
          split at h <;> cases h
        · rw [if_neg hk] at h
          exact ⟨h, fun q => hk (by omega)⟩
      | false =>
        rw [hc] at h
        simp only [cond_false] at h
        refine ⟨h, fun q => ?_⟩
        have : j = k := by omega
        subst this
        rw [hv] at h
        cases h
        rw [q.2] at hc
        cases hc
    · rename_i hv
      refine ⟨h, fun q => ?_⟩
      have : j = k := by omega
      subst this
      exact hv _ h
/-- the listed locals of the machine, out of the pure ones -/
def xl (B b : Nat) (L : pL) : List (Nat × Value) := (List.range L.length).filterMap (fun i => match L[i]? with
  | some (some v) => some (i, xV B b v)
  | _ => none)
theorem xl_mem {B b : Nat} {L : pL} {i : Nat} {v : Value} (h : L[i]? = some (some v)) : (i, xV B b v) ∈ xl B b L := by
  unfold xl
  refine List.mem_filterMap.mpr ⟨i, List.mem_range.mpr (List.getElem?_eq_some_iff.mp h).1, ?_⟩
  rw [h]
theorem xl_of {B b : Nat} {L : pL} {q : Nat × Value} (h : q ∈ xl B b L) : ∃ v, L[q.1]? = some (some v) ∧ q.2 = xV B b v := by
  unfold xl at h
  obtain ⟨i, -, hi⟩ := List.mem_filterMap.mp h
  split at hi
  · rename_i v hv
    cases hi
    exact ⟨v, hv, rfl⟩
  · cases hi
theorem xL_has {B b nL : Nat} {L : pL} {ls : Array Slot} (h : xL B b nL L ls) : lv_has ls nL (xl B b L) := by
  refine ⟨h.2.1, h.2.2.1, fun q hq => ?_⟩
  obtain ⟨v, h1, h2⟩ := xl_of hq
  rw [h2]
  exact h.2.2.2 _ _ h1
theorem xL_set1 {B b nL i : Nat} {L : pL} {ls : Array Slot} {v : Value} (hn : L.length = nL) (hi : i < nL) (hc : v.category = 1) (h : lv_has ls nL ((i, xV B b v) :: (xl B b L).filter (fun q => !(q.1 == i) && !(q.1 + 1 == i && q.2.category == 2)))) : xL B b nL (pset i v L) ls := by
  refine ⟨by rw [pset_len]; exact hn, h.1, h.2.1, fun j u hj => ?_⟩
  unfold pset at hj
  rw [hc] at hj
  rw [show Nat.beq 1 2 = false from rfl] at hj
  simp only [cond_false] at hj
  rw [List.getElem?_set] at hj
  by_cases hk : i = j
  · subst hk
    rw [if_pos rfl, pkill_len, hn, if_pos hi] at hj
    cases hj
    exact h.2.2 _ List.mem_cons_self
  · rw [if_neg hk] at hj
    obtain ⟨h1, h2⟩ := pkill_get hj
    refine h.2.2 (j, xV B b u) (List.mem_cons_of_mem _ (List.mem_filter.mpr ⟨xl_mem h1, ?_⟩))
    simp only [xV_cat]
    have e1 : (j == i) = false := by simp; omega
    rw [e1]
    simp only [Bool.not_false, Bool.true_and, Bool.not_eq_true', Bool.and_eq_false_iff, beq_eq_false_iff_ne]
    by_cases h3 : j + 1 = i
    · right
      exact fun q => h2 ⟨h3, q⟩
    · left
      exact h3
theorem xL_set2 {B b nL i : Nat} {L : pL} {ls : Array Slot} {v : Value} (hn : L.length = nL) (hi : i + 1 < nL) (hc : v.category = 2) (h : lv_has ls nL ((i, xV B b v) :: (xl B b L).filter (fun q => !(q.1 == i) && (!(q.1 == i + 1) && !(q.1 + 1 == i && q.2.category == 2))))) : xL B b nL (pset i v L) ls := by
  refine ⟨by rw [pset_len]; exact hn, h.1, h.2.1, fun j u hj => ?_⟩
  unfold pset at hj
  rw [hc] at hj
  rw [show Nat.beq 2 2 = true from rfl] at hj
  simp only [cond_true] at hj
  rw [List.getElem?_set] at hj
  by_cases hk : i = j
  · subst hk
    rw [if_pos rfl, List.length_set, pkill_len, hn, if_pos (by omega)] at hj
    cases hj
    exact h.2.2 _ List.mem_cons_self
  · rw [if_neg hk, List.getElem?_set] at hj
    by_cases hk2 : i + 1 = j
    · rw [if_pos hk2] at hj
      split at hj <;> cases hj
    · rw [if_neg hk2] at hj
      obtain ⟨h1, h2⟩ := pkill_get hj
      refine h.2.2 (j, xV B b u) (List.mem_cons_of_mem _ (List.mem_filter.mpr ⟨xl_mem h1, ?_⟩))
      simp only [xV_cat]
      have e1 : (j == i) = false := by simp; omega
      have e2 : (j == i + 1) = false := by simp; omega
      rw [e1, e2]
      simp only [Bool.not_false, Bool.true_and, Bool.not_eq_true', Bool.and_eq_false_iff, beq_eq_false_iff_ne]
      by_cases h3 : j + 1 = i
      · right
        exact fun q => h2 ⟨h3, q⟩
      · left
        exact h3
