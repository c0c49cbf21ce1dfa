/-! What this proof takes from the whole library is named first, so that a round is read over it from its start. -/
theorem w00_max : parseMethodDescriptor NT.mathMax32N.desc = some { parameters := [.float, .float], returnType := some .float } := NT.mathMax32_desc
