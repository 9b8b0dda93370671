theorem p_law : ok_law Inv := sorry
