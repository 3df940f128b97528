section MPast
variable {σ : Sg} {I I' J I1 I2 : Nat → Nat → Int32} {L L' L1 L2 : Nat → Nat → Int64}
/-- makes -/
def mkn (N : Nat → Nat) (f how so : Nat) : Nat → Nat := updA (updA N f how) (8 + f) so
end MPast
