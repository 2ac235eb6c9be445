/-! the state of one object -/
abbrev SX : Type := St2
