theorem m_gA_eq {S : mS} {j i : Nat} {v : Int32} : (m_sA S j i v).2.1 j i = v := if_pos ⟨rfl, rfl⟩
theorem m_gB_eq {S : mS} {j i : Nat} {v : Int64} : (m_sB S j i v).2.2 j i = v := if_pos ⟨rfl, rfl⟩
