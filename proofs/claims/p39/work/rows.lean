section
/-! The law's entry has an exception table (one row: JAVAP.txt of the claim, from 401 to 409, target 412); the statement's first word of the tables says of it that it has none. So no launch has these lists: what is owed is true of nothing. -/
theorem ex_entry : Jvm.ClassFile.Facts.File.hasCode classFile x code maxLocals ret = false := by decide +kernel
theorem ex_any {α : Type} (p : α → Bool) (o : Option α) (a : α) (ho : o = some a) (h : o.any p = true) : p a = true := by
  subst ho; exact h
theorem ex_lists (l : Jvm.Launch) : ¬ Jvm.D.Lists l classFile x code maxLocals ret tables_1 room_1 := by
  intro h
  obtain ⟨-, hf, hl, -⟩ := h
  have h1 := hl.1 (x, code, maxLocals, ret) (List.mem_append_left _ (List.mem_append_left _ (List.mem_singleton.2 rfl)))
  have h3 := ex_any (fun f : Jvm.ClassFile.Facts.File => f.hasCode x code maxLocals ret) _ _ hf h1
  exact Bool.false_ne_true (ex_entry.symm.trans h3)
/-! The statement's own word for 'the entry is as it is said' is false, too. -/
theorem ex_pinned : ¬ PinnedClaimed := fun h => Bool.false_ne_true (ex_entry.symm.trans h)
/-! And so no start meets the premises: the witness that a hand-in wants cannot be had. -/
theorem ex_witness : ¬ WitnessClaimed_1 := fun ⟨_, _, _, _, _, _, h⟩ => ex_lists launch0 h.1
theorem i_vc : Claimed_1_1 ∧ Claimed_1_2 :=
  ⟨fun l _ hL _ => absurd hL (ex_lists l), fun l _ hL _ => absurd hL (ex_lists l)⟩
end
