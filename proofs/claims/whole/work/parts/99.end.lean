theorem v_probe : True := trivial
