section
theorem red_ok : RedOk := by
  intro m s hc hm hs a
  have h80 := hc.2.2.1
  obtain ⟨m2, p1, p2, p3⟩ := c_reduceTerm hc hs a
  have hm2 := MP_fy hm p3
  obtain ⟨m3, q1, q2, q3⟩ := m_reduceTerm hm2 hs a
  have hok := ok_rt hs h80 a
  exact ⟨_, m2, m3, p1, hm2.1.a.1, q1, _, CP_of p2 hok.1.1 q3, q2, hok⟩
end
