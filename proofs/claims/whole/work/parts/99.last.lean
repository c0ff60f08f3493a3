theorem tst_9 : True := trivial
