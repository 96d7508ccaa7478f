/-! Members of the library: Math.max, Math.min, Object's constructor. -/
