/-! A name of the rest of the library, first of all: so a round goes over the whole of it from its first part (G2, G3 need it). -/
theorem aa_wide : @Jvm.Free.Multi.outerC = @Jvm.Free.Multi.outerC := rfl
