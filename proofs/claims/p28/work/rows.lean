section
/-! THE STATEMENT OF p28 AS PRINTED SPEAKS OF NO START (REPORT.md, STATEMENT 1): its lists want that the law's own class file has the law's method WITHOUT an exception table; the class file in the same Statement has it WITH one.
i_vc stands here, but by this emptiness alone: it says nothing of the class. -/
theorem em_file : Jvm.ClassFile.Facts.File.hasCode classFile x code maxLocals ret = false := by decide +kernel
theorem em_in : (x, code, maxLocals, ret) ∈ (Jvm.D.headSpec (Jvm.Cond.code x code maxLocals ret :: tables_1) room_1).pre.codes ++ (Jvm.D.headSpec (Jvm.Cond.code x code maxLocals ret :: tables_1) room_1).post.codes :=
  List.mem_append_left _ (List.mem_append_left _ (List.mem_singleton.mpr rfl))
theorem em_lists (l : Launch) : ¬ Jvm.D.Lists l classFile x code maxLocals ret tables_1 room_1 := by
  intro h
  obtain ⟨_, hfile, hfrom, _⟩ := h
  have h1 := hfrom.1 (x, code, maxLocals, ret) em_in
  have h2 : (l.file? x.cls).any (fun f => f.hasCode x code maxLocals ret) = true := h1
  rw [hfile, Option.any_some] at h2
  exact Bool.noConfusion (em_file.symm.trans h2)
/-- no start meets the premises: the witness that the printed text owes can't be had -/
theorem em_witness : ¬ WitnessClaimed_1 := fun ⟨_, _, _, _, _, _, h⟩ => em_lists _ h.1
theorem i_vc : Claimed_1_1 ∧ Claimed_1_2 :=
  ⟨fun l _ h _ => absurd h (em_lists l), fun l _ h _ => absurd h (em_lists l)⟩
end
