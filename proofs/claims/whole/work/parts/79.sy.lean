/-! the text of a query is kept only where it reads -/
theorem aOk_typ {A : aS} {c : Nat} (h : aOk A) : aOk (aTyp A c).2 := by
  unfold aTyp
  split
  · exact h
  · exact h
theorem aOk_doc {A : aS} (h : aOk A) : aOk (aDoc A).2.2 := by
  unfold aDoc
  cases pD A.1 <;> exact h
theorem aOk_qry {A : aS} (h : aOk A) : aOk (aQry A).2.2 := by
  unfold aQry
  cases hp : pQ A.1 with
  | inl d => exact fun t ht => ⟨d, by cases ht; exact hp⟩
  | inr w => exact h
theorem aOk_find {A : aS} (h : aOk A) : aOk (aFind A).2.2 := by
  have hr : ∀ x, aOk (fRes A x).2.2 := fun x => by
    unfold fRes
    cases x with
    | none => exact h
    | some w =>
      obtain ⟨r, k⟩ := w
      simp only
      split <;> exact h
  unfold aFind
  split
  · split
    · exact hr _
    · exact h
  · exact h
def A0 : aS := ([], none, none, [], -1)
theorem aOk_0 : aOk A0 := fun t h => (nomatch h)
