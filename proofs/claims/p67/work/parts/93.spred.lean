/-! predictions of the reference -/
theorem RSF_at (r : RS) (k : Nat) (v : Int32) : (RS_setF r k v).1 k = v := by
  show upd r.1 k v k = v
  exact upd_at
section SPred
variable {g : AH} {m : Nat} {r : RS} {st : St}
end SPred


