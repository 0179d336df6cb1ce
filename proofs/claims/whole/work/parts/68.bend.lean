/-! bend -/
/-- what touches the frames' bytes alone -/
theorem Inv_byte {m : Nat} {I I' : MI} {J : MJ} (h : ∀ a, a ≠ 35 → a ≠ 68 → I' a = I a) (hf : PF I') (hI : Inv (m + 1) I J) : Inv m I' J := by
  obtain ⟨pr, pq, pf, c, ni, nk, no, pn, ⟨pu, pg, pw, pp, -, pe⟩⟩ := hI
  have e : ∀ (l : List Nat), (∀ a ∈ l, a ≠ 35 ∧ a ≠ 68) → ∀ a ∈ l, I' a = I a := fun l hl a ha => h a (hl a ha).1 (hl a ha).2
  have h44 := h 44 (by decide) (by decide)
  refine ⟨PR_fr (e _ (by decide)) pr, PQ_fr (e _ (by decide)) (by rw [h44]) pq, Pf_fr (by rw [h 11 (by decide) (by decide)]) (by rw [h 22 (by decide) (by decide)]) (by rw [h 28 (by decide) (by decide)]) (by rw [h 34 (by decide) (by decide)]) (fun j _ => by rw [h44]) pf, c, ni, nk, no, PN_fr (e _ (by decide)) (fun j _ => by rw [h44]) pn, ?_, ?_, ?_, ?_, hf, PE_byte h pe⟩
  · exact PU_fr (e _ (by decide)) (by rw [h 34 (by decide) (by decide)]) (fun j _ => by rw [h44]) (PU_dec pu)
  · exact PG_fr (e _ (by decide)) (fun j _ => by rw [h44]) rfl pg
  · exact PW_fr (e _ (by decide)) (by rw [h44]) rfl pw
  · exact PP_fr (e _ (by decide)) (by rw [h44]) pp
