/-! a name of the library's rest, first of all: so a fresh machine sees at once that the rows are read over the whole of it -/
theorem wide_0 : Bundle.chainSAtomsX = Bundle.chainSAtomsX := rfl
