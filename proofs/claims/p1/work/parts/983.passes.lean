/-! nothing is wanted of how many passes there can be: a fresh object has no loaves -/
